/** Promises 19 to 29: learners, attendants, chairs found and drawn. */
public final class LearnersTest {
    public static void main(String[] args) {
        learn();
        show();
        opens();
        bestFirst();
        tide();
        two();
        chairsEnd();
        judgeAndEnds();
        who();
        begun();
        drawn();
        refusals();
        learnOfSixty();
        learnAsOftenAsItLearns();
        showTheTwelfth();
        showUpToThree();
        secondsAreMet();
        opensByTheLastSecond();
        leftAreNotOpen();
        bestFirstOfSixty();
        tideToTheSecond();
        twoShare();
        twoLeave();
        foundOfSixty();
        whoOfSix();
        begunFromOne();
        drawnAsTold();
        Check.end();
    }

    private static void learn() {
        OpensLikeThat x = Beach.wheels();
        x.person(0, 2);
        x.mend(0, 4, 2048);
        Beach.bytes(x, 0, 0, 1, 0, 3, 3, 3);
        Check.due("seen LEARNS times or more, and KNOWN", 2048 + 8 + 1, x.learn(0, 0));
        x.mend(0, 5, 3);
        Check.due("LEARNS 3", 2048 + 8, x.learn(0, 0));
        x.mend(0, 5, 4);
        Check.due("LEARNS 4", 2048, x.learn(0, 0));
        Check.due("it is a question only", 2048, x.of(0, 4));
        x.mend(0, 5, 1);
        Beach.bytes(x, 0, 2, 4, 1);
        Check.due("as far as such there are", 2048 + 4, x.learn(0, 0));
        Beach.bytes(x, 0, -1, 1);
        Check.due("as far as such there are", 2048, x.learn(0, 0));
        Beach.bytes(x, 0);
        Check.due("none", 2048, x.learn(0, 0));
    }

    private static void show() {
        OpensLikeThat x = Beach.wheels();
        x.person(0, 3);
        // Each MOVE takes 4, or 2 if it is KNOWN: from 0 two FOLDS, from 7 CLOTH twice and SIDE, too.
        Check.due("none needed", 0, x.show(100, 8, 0));
        Check.due("none needed", 0, x.show(100, 8, 1));
        Check.due("one", 1, x.show(100, 7, 0));
        Check.due("the FOLD", 1, x.show(100, 4, 1));
        Check.due("never sooner", Beach.NOT, x.show(100, 3, 0));
        Check.due("never sooner", Beach.NOT, x.show(100, 3, 1));
        Check.due("of like ones the least", 1, x.show(107, 16, 1));
        Check.due("two", 2, x.show(107, 15, 0));
        Check.due("FOLD and CLOTH", 3, x.show(107, 12, 1));
        Check.due("three", 3, x.show(107, 10, 0));
        Check.due("three", 11, x.show(107, 10, 1));
        Check.due("it is a CHAIR", 0, x.show(136, 0, 0));
        x.mend(0, 4, 1);
        Check.due("it KNOWS the FOLD", 1, x.show(107, 12, 0));
        Check.due("it KNOWS the FOLD", 2, x.show(107, 12, 1));
        Check.due("nobody", Beach.BAD, x.show(0, 8, 0));
        Check.due("no seconds", Beach.BAD, x.show(100, -1, 0));
        Check.due("too many seconds", Beach.BAD, x.show(100, 1000, 0));
        Check.due("999 seconds", 0, x.show(100, 999, 0));
        Check.due("no such what", Beach.BAD, x.show(100, 8, 2));
        Check.due("no such what", Beach.BAD, x.show(100, 8, -1));
        // Four are too many: each part takes 0 until it is KNOWN.
        Beach.law(x, "k");
        x.mend(0, 4, 0);
        Check.due("FOLD, CLOTH and SIDE", 11, x.show(107, 9, 1));
        x.mend(3, 1, 2);
        x.mend(0, 0, 0);
        x.move(1, 1);
        Check.due("four would be needed", Beach.NOT, x.show(107, 9, 0));
        Check.due("three", 19, x.show(106, 9, 1));
        // A law may make it worse to KNOW: then the ways change, too.
        Beach.law(x, "m<4?1+k*50;1");
        Check.due("none", 0, x.show(107, 5, 0));
        x.mend(0, 4, 1);
        Check.due("it cannot forget", Beach.NOT, x.show(107, 5, 0));
    }

    /** Seconds of chairs in STATES 0, 36, 18, 7: 8, 0, 4, 20. */
    private static OpensLikeThat beach() {
        OpensLikeThat x = Beach.wheels();
        x.person(0, 1);
        x.person(9, 1);
        return x;
    }

    private static void opens() {
        OpensLikeThat x = beach();
        Beach.bytes(x, 0, 0, 36, 18, 7);
        int[] by = {0, 7, 8, 11, 12, 31, 32, 9999};
        int[] due = {0, 0, 2, 2, 3, 3, 4, 4};
        for (int i = 0; i < by.length; i++) {
            Check.due("open by " + by[i], due[i], x.opens(0, 0, by[i]));
        }
        Check.due("all takes", 32, x.opens(0, 0, -1));
        Check.due("none left", 0, x.opens(0, 0, -2));
        Check.due("too late", Beach.BAD, x.opens(0, 0, 10000));
        Check.due("no such", Beach.BAD, x.opens(0, 0, -3));
        Check.due("the other, DEFT 9: 1 each", 8, x.opens(0, 1, -1));
        x.mend(1, 0, 0);
        Beach.bytes(x, 0, 12, 0, 53, 18);
        Check.due("left: no way", 2, x.opens(0, 0, -2));
        Check.due("left take none", 12, x.opens(0, 0, -1));
        Check.due("left are not open", 2, x.opens(0, 0, 9999));
        Check.due("the first", 1, x.opens(0, 0, 8));
        Beach.bytes(x, 0);
        Check.due("no chairs", 0, x.opens(0, 0, 9));
        Check.due("no chairs", 0, x.opens(0, 0, -1));
        Check.due("no chairs", 0, x.opens(0, 0, -2));
        int[] sixty = new int[60];
        for (int i = 0; i < 60; i++) {
            sixty[i] = 18;
        }
        Beach.bytes(x, 0, sixty);
        Check.due("sixty", 240, x.opens(0, 0, -1));
        Check.due("thirty of sixty", 30, x.opens(0, 0, 120));
    }

    private static void bestFirst() {
        OpensLikeThat x = beach();
        Beach.bytes(x, 0, 7, 0, 36, 18);
        int[] by = {0, 3, 4, 11, 12, 31, 32, 9999};
        int[] due = {1, 1, 2, 2, 3, 3, 4, 4};
        for (int i = 0; i < by.length; i++) {
            Check.due("open by " + by[i], due[i], x.bestFirst(0, 0, by[i]));
        }
        Check.due("in order it is not so", 0, x.opens(0, 0, 12));
        x.mend(1, 0, 0);
        Beach.bytes(x, 0, 53, 0, 12, 36, 18);
        Check.due("two left are not open", 3, x.bestFirst(0, 0, 12));
        Check.due("no such", Beach.BAD, x.bestFirst(0, 0, -1));
        Check.due("too late", Beach.BAD, x.bestFirst(0, 0, 10000));
        Beach.bytes(x, 0);
        Check.due("no chairs", 0, x.bestFirst(0, 0, 9));
    }

    private static void tide() {
        OpensLikeThat x = beach();
        Beach.bytes(x, 0, 0, 36, 18, 7);
        Check.due("in time", Beach.NOT, x.tide(0, 0, 8));
        Check.due("the first is late", 0, x.tide(0, 0, 7));
        Beach.bytes(x, 0, 18, 18, 0, 36);
        Check.due("in time to the second", Beach.NOT, x.tide(0, 0, 6));
        Check.due("the third is late", 2, x.tide(0, 0, 5));
        x.mend(1, 0, 0);
        Beach.bytes(x, 0, 36, 53, 36);
        Check.due("one left is late", 1, x.tide(0, 0, 999));
        Beach.bytes(x, 0);
        Check.due("no chairs", Beach.NOT, x.tide(0, 0, 1));
        Check.due("no such", Beach.BAD, x.tide(0, 0, 0));
        Check.due("no such", Beach.BAD, x.tide(0, 0, 1000));
    }

    private static void two() {
        OpensLikeThat x = beach();
        // The first: 8, 4, 20, 8; the other: 2, 1, 5, 2.
        Beach.bytes(x, 0, 0, 18, 7, 0);
        Check.due("first 0 to 8, other 0 to 1 to 6 to 8", 40 - 8, x.two(0, 1));
        Check.due("the other ends at 12", 0, x.two(0, 10));
        Beach.bytes(x, 0, 0, 18, 7);
        Check.due("first 0 to 2 to 7, other 0 to 4", 8 - 7, x.two(0, 10));
        Beach.bytes(x, 0, 18, 7);
        Check.due("the other is slower than all", 0, x.two(0, 10));
        Beach.bytes(x, 0, 36, 18);
        Check.due("of like ones the first", 0, x.two(0, 1));
        Beach.bytes(x, 0);
        Check.due("no chairs", 0, x.two(0, 1));
        Check.due("one twice", Beach.BAD, x.two(0, 11));
        Check.due("no one", Beach.BAD, x.two(0, 2));
        Check.due("no one", Beach.BAD, x.two(0, 20));
        Check.due("below 0", Beach.BAD, x.two(0, -1));
        Check.due("below 0", Beach.BAD, x.two(0, -10));
        Check.due("far off", Beach.BAD, x.two(0, Integer.MIN_VALUE));
        // The other cannot fold: what it takes is left, in 0 seconds, and it takes the next.
        Beach.bytes(x, 0, 18, 0, 0, 18);
        Beach.law(x, "d=9?m;4");
        Check.due("the other leaves all behind the first", 24 - 4, x.two(0, 1));
    }

    /** The first byte that is no STATE ends the chairs: those behind it are none, too. */
    private static void chairsEnd() {
        OpensLikeThat x = beach();
        for (int none : new int[] {-128, -1, 54, 55, 56, 100, 127}) {
            String told = " behind " + none;
            Beach.bytes(x, 0, 0, 18, none, 36, 18);
            Check.due("opens" + told, 2, x.opens(0, 0, 9999));
            Check.due("opens -1" + told, 12, x.opens(0, 0, -1));
            Check.due("opens -2" + told, 0, x.opens(0, 0, -2));
            Check.due("bestFirst" + told, 2, x.bestFirst(0, 0, 9999));
            Check.due("bestFirst by 4" + told, 1, x.bestFirst(0, 0, 4));
            Check.due("tide" + told, Beach.NOT, x.tide(0, 0, 8));
            Check.due("two" + told, 12 - 8, x.two(0, 1));
            Beach.bytes(x, 0, none, 36);
            Check.due("opens at once" + told, 0, x.opens(0, 0, 0));
            Check.due("opens -1 at once" + told, 0, x.opens(0, 0, -1));
            Check.due("opens -2 at once" + told, 0, x.opens(0, 0, -2));
            Check.due("bestFirst at once" + told, 0, x.bestFirst(0, 0, 0));
            Check.due("tide at once" + told, Beach.NOT, x.tide(0, 0, 1));
            Check.due("two at once" + told, 0, x.two(0, 1));
        }
        Beach.bytes(x, 0, 53, 0, 53);
        Check.due("53 and 0 are STATES", 3, x.opens(0, 0, 9999));
        // What a longer ROW had behind its end is not there any more.
        Beach.bytes(x, 0, 36, 54, 36);
        Beach.bytes(x, 0, 36, 36, 36);
        Check.due("all three", 3, x.opens(0, 0, 0));
        Check.due("that one not put is STATE 0", 8, restOfRow(x));
    }

    private static int restOfRow(OpensLikeThat x) {
        x.row(0, 0, 2);
        x.put(0, 0, 36);
        return x.opens(0, 0, -1);
    }

    private static void judgeAndEnds() {
        OpensLikeThat x = Beach.wheels();
        x.mend(1, 1, 2);
        Beach.bytes(x, 0, 0, 0, 1, 0, 1, 2);
        Check.due("the CLOTH of a SHUT one", 4, x.judge(0, 0));
        Check.due("the STATE ahead of it", 6, x.ends(0, 0));
        Check.due("at once", 2, x.judge(0, 18));
        Check.due("at once", 0, x.ends(0, 18));
        Beach.bytes(x, 0, 0, 0, 1, 2);
        Check.due("all", Beach.NOT, x.judge(0, 0));
        Check.due("all", 36 + 6 + 2, x.ends(0, 0));
        Beach.bytes(x, 0, 0, 4, 0);
        Check.due("none such", 1, x.judge(0, 0));
        Check.due("none such", 18, x.ends(0, 0));
        Beach.bytes(x, 0, -1, 0);
        Check.due("none such", 0, x.judge(0, 0));
        Check.due("none such", 5, x.ends(0, 5));
        Beach.bytes(x, 0);
        Check.due("nothing made", Beach.NOT, x.judge(0, 53));
        Check.due("nothing made", 53, x.ends(0, 53));
    }

    private static void who() {
        OpensLikeThat x = Beach.wheels();
        Beach.bytes(x, 0, 0, 1);
        Check.due("no PEOPLE", 0, x.who(0, 0));
        x.person(0, 1);
        x.person(5, 1);
        x.person(9, 1);
        Check.due("all three", 7, x.who(0, 0));
        Beach.law(x, "d-m*5");
        Check.due("of the first MOVE 1 and 2, of the second 2", 4, x.who(0, 0));
        Beach.bytes(x, 0, 0);
        Check.due("two", 6, x.who(0, 0));
        Beach.bytes(x, 0);
        Check.due("nothing to make", 7, x.who(0, 0));
        Beach.bytes(x, 0, 0, 4);
        Check.due("none such", 0, x.who(0, 0));
        x.mend(0, 0, 0);
        Beach.bytes(x, 0, 0, 0);
        Check.due("it MAY not be", 0, x.who(0, 0));
        Beach.law(x, "f=1?0;2");
        x.mend(0, 0, 3);
        Check.due("none on the way", 0, x.who(0, 0));
        Check.due("all from behind it", 7, x.who(0, 36));
    }

    private static void begun() {
        OpensLikeThat x = Beach.wheels();
        Beach.bytes(x, 0, 0, 2);
        Check.due("one", 1, x.begun(0, 20, 0));
        Check.due("one", 0, x.begun(0, 20, 1));
        x.move(32, 3);
        x.mend(0, 0, 0);
        Check.due("FOLD from 0 alone", 0, x.begun(0, 36, 0));
        Check.due("FOLD from 0 alone", Beach.NOT, x.begun(0, 36, 1));
        Beach.bytes(x, 0, 4);
        Check.due("it stays", 9, x.begun(0, 9, 1));
        Beach.bytes(x, 0);
        Check.due("it stays", 1, x.begun(0, 53, 0));
        Check.due("it stays", 53, x.begun(0, 53, 1));
        Beach.bytes(x, 0, 0, 9);
        Check.due("none such", 0, x.begun(0, 18, 0));
        Check.due("no such what", Beach.BAD, x.begun(0, 0, 2));
        Check.due("no such what", Beach.BAD, x.begun(0, 0, -1));
    }

    private static void drawn() {
        OpensLikeThat x = new OpensLikeThat();
        Check.due("it stays", 0, x.drawn(0, 7, 5060, 0));
        Check.due("it stays a CHAIR", 50, x.drawn(36, 7, 5060, 0));
        Check.due("a CHAIR at first", 50, x.drawn(36, 7, 5060, 1));
        x.move(1, 3);
        Check.due("FOLD twice", 3, x.drawn(0, 7, 302, 0));
        Check.due("FOLD three times", 0, x.drawn(0, 7, 303, 0));
        Check.due("it was one", 3, x.drawn(0, 7, 303, 1));
        Check.due("it was one at first", 3, x.drawn(36, 7, 301, 1));
        Check.due("it is one no more", 0, x.drawn(36, 7, 301, 0));
        int[] wrong = {0, 100, 60, 161, 5101, 99, 199, -101, Integer.MIN_VALUE, Integer.MAX_VALUE};
        for (int nm : wrong) {
            Check.due("drawn nm " + nm, Beach.BAD, x.drawn(0, 7, nm, 0));
        }
        Check.due("no STATE", Beach.BAD, x.drawn(54, 7, 101, 0));
        Check.due("no STATE", Beach.BAD, x.drawn(-1, 7, 101, 0));
        Check.due("no such what", Beach.BAD, x.drawn(0, 7, 101, 2));
        Check.due("no such what", Beach.BAD, x.drawn(0, 7, 101, -1));
        // One chair, one MOVE: z of SEED 0 is 12345, shifted 48; two MOVES that MAY be made.
        OpensLikeThat y = new OpensLikeThat();
        y.move(1, 1);
        y.move(31, 3);
        y.move(1, 3);
        Check.due("48 % 2: the first that MAY", 0, y.drawn(36, 0, 101, 0));
        Check.due("48 % 3: FOLD", 1, y.drawn(18, 0, 101, 0));
        // z of SEED -1 is -1103515245 + 12345, so the shift must be one without a sign.
        int z = -1103515245 + 12345;
        Check.due("below 0", (z >>> 8) % 3 == 1 ? 0 : 1, y.drawn(18, -1, 101, 0));
    }

    private static void refusals() {
        OpensLikeThat x = beach();
        x.body(0);
        x.keep(1, 0);
        x.row(2, 1, 4);
        x.row(3, 4, 4);
        int[] shelves = {-1, 6, 0, 1, 2, 3};
        int[] due = {Beach.BAD, Beach.BAD, Beach.BARE, Beach.KIND, Beach.KIND, Beach.KIND};
        for (int i = 0; i < shelves.length; i++) {
            int shelf = shelves[i];
            Check.due("learn " + shelf, due[i], x.learn(shelf, 0));
            Check.due("opens " + shelf, due[i], x.opens(shelf, 0, 0));
            Check.due("bestFirst " + shelf, due[i], x.bestFirst(shelf, 0, 0));
            Check.due("tide " + shelf, due[i], x.tide(shelf, 0, 1));
            Check.due("two " + shelf, due[i], x.two(shelf, 1));
            Check.due("judge " + shelf, due[i], x.judge(shelf, 0));
            Check.due("ends " + shelf, due[i], x.ends(shelf, 0));
            Check.due("who " + shelf, due[i], x.who(shelf, 0));
            Check.due("begun " + shelf, due[i], x.begun(shelf, 0, 0));
            Check.due("learn BAD first", Beach.BAD, x.learn(shelf, 2));
            Check.due("learn nobody", Beach.BAD, x.learn(shelf, -1));
            Check.due("opens BAD first", Beach.BAD, x.opens(shelf, 2, 0));
            Check.due("opens nobody", Beach.BAD, x.opens(shelf, -1, 0));
            Check.due("opens BAD first", Beach.BAD, x.opens(shelf, 0, -3));
            Check.due("bestFirst BAD first", Beach.BAD, x.bestFirst(shelf, 2, 0));
            Check.due("bestFirst BAD first", Beach.BAD, x.bestFirst(shelf, 0, -1));
            Check.due("tide BAD first", Beach.BAD, x.tide(shelf, 2, 1));
            Check.due("tide BAD first", Beach.BAD, x.tide(shelf, 0, 0));
            Check.due("two BAD first", Beach.BAD, x.two(shelf, 0));
            Check.due("judge BAD first", Beach.BAD, x.judge(shelf, 54));
            Check.due("ends BAD first", Beach.BAD, x.ends(shelf, -1));
            Check.due("who BAD first", Beach.BAD, x.who(shelf, 54));
            Check.due("begun BAD first", Beach.BAD, x.begun(shelf, 54, 0));
            Check.due("begun BAD first", Beach.BAD, x.begun(shelf, 0, 2));
        }
    }

    /** A ROW of 0 and of 60 elements: the last counts; the first that is no MOVE ends it. */
    private static void learnOfSixty() {
        OpensLikeThat x = Beach.full();
        x.mend(5, 5, 2);
        int[] row = Beach.times(60, 0);
        row[0] = 11;
        row[59] = 11;
        Beach.bytes(x, 5, row);
        Check.due("the 60th is the second 11", 2049, x.learn(5, 5));
        Check.due("the shelf beside it is of 0", 1, x.learn(4, 5));
        x.put(5, 58, 12);
        Check.due("no MOVE 12: what is behind is not seen", 1, x.learn(5, 5));
        Beach.bytes(x, 5);
        Check.due("nothing seen", 0, x.learn(5, 5));
        x.mend(5, 4, 4095);
        Check.due("it KNOWS all", 4095, x.learn(5, 5));
        for (int none : new int[] {12, 13, 127, -1, -128}) {
            Beach.bytes(x, 3, 0, 0, none, 1, 1);
            x.mend(5, 4, 4);
            Check.due("as far as such there are: " + none, 5, x.learn(3, 5));
        }
        Beach.bytes(x, 3, 0, 11, 1, 0, 11, 0);
        Check.due("0 and 11, each twice, and 2", 2053, x.learn(3, 5));
        x.mend(5, 4, 2049);
        Check.due("what it KNOWS it does not lose by seeing it", 2049, x.learn(3, 5));
        OpensLikeThat y = new OpensLikeThat();
        y.person(0, 1);
        y.mend(0, 4, 4095);
        y.row(0, 0, 60);
        Check.due("no MOVES, but it KNOWS them", 4095, y.learn(0, 0));
        y.mend(0, 4, 0);
        Check.due("no MOVES to see", 0, y.learn(0, 0));
    }

    /** "each seen LEARNS times or more", 1 .. 9. */
    private static void learnAsOftenAsItLearns() {
        OpensLikeThat x = Beach.wheels();
        x.person(0, 1);
        for (int learns = 1; learns <= 9; learns++) {
            x.mend(0, 5, learns);
            Beach.bytes(x, 0, Beach.times(learns - 1, 3));
            Check.due("seen once less than " + learns, 0, x.learn(0, 0));
            Beach.bytes(x, 0, Beach.times(learns, 3));
            Check.due("seen " + learns + " times", 8, x.learn(0, 0));
            Beach.bytes(x, 0, Beach.times(learns + 1, 3));
            Check.due("seen once more than " + learns, 8, x.learn(0, 0));
        }
    }

    /** 12 MOVES, of which the last alone leads: it is the one to be shown, however often one must see it. */
    private static void showTheTwelfth() {
        OpensLikeThat x = new OpensLikeThat();
        for (int i = 0; i < 11; i++) {
            x.move(32, 3);
        }
        x.move(2, 3);
        for (int i = 0; i < 6; i++) {
            x.person(0, 9);
        }
        Check.due("4 seconds without", 0, x.show(600, 4, 0));
        Check.due("2 if it KNOWS it", 1, x.show(600, 2, 0));
        Check.due("which", 2048, x.show(600, 2, 1));
        Check.due("1 is too few", Beach.NOT, x.show(600, 1, 0));
        x.mend(5, 4, 2048);
        Check.due("it KNOWS it: none", 0, x.show(600, 2, 1));
        Check.due("another does not", 2048, x.show(500, 2, 1));
        x.mend(5, 4, 2047);
        Check.due("it KNOWS all others", 2048, x.show(600, 3, 1));
        Check.due("a CHAIR, no seconds", 0, x.show(640, 0, 0));
        Check.due("no CHAIR, no seconds", Beach.NOT, x.show(600, 0, 1));
        Check.due("none ever, 999 seconds", Beach.NOT, x.show(601, 999, 0));
        Check.due("none ever, 999 seconds", Beach.NOT, x.show(601, 999, 1));
    }

    /** "how many unlike ones (0 .. 3)": five MOVES that one cannot make till it KNOWS them. */
    private static void showUpToThree() {
        OpensLikeThat x = new OpensLikeThat();
        int[] wb = {1, 1, 11, 11, 31};
        int[] from = {0, 1, 1, 2, 1};
        for (int i = 0; i < wb.length; i++) {
            x.move(wb[i], from[i]);
        }
        x.person(0, 5);
        Beach.law(x, "k");
        int[] ps = {136, 137, 119, 101, 131, 107};
        int[] many = {0, 1, 2, 3, 3, Beach.NOT};
        int[] which = {0, 16, 18, 19, 26, Beach.NOT};
        for (int i = 0; i < ps.length; i++) {
            Check.due("how many from " + ps[i], many[i], x.show(ps[i], 999, 0));
            Check.due("which from " + ps[i], which[i], x.show(ps[i], 999, 1));
            if (many[i] > 0) {
                Check.due("to the second from " + ps[i], many[i], x.show(ps[i], many[i], 0));
                Check.due("a second less from " + ps[i], Beach.NOT, x.show(ps[i], many[i] - 1, 0));
            }
        }
        Check.due("CLOTH 1, SIDE 0: four are too many", Beach.NOT, x.show(106, 999, 1));
        x.mend(0, 4, 1);
        Check.due("it KNOWS one of the four", 3, x.show(106, 999, 0));
        Check.due("the other three", 14, x.show(106, 999, 1));
        Check.due("still four", Beach.NOT, x.show(107, 999, 1));
        // FOLD by 2 at once, too.
        x.mend(0, 4, 0);
        x.move(2, 0);
        Check.due("one is fewer than two", 32, x.show(100, 999, 1));
        x.move(2, 0);
        Check.due("of like ones the least", 32, x.show(100, 999, 1));
        x.mend(5, 1, 2);
        Check.due("but that one MAY be made", 64, x.show(100, 999, 1));
    }

    /** Ways of 99 seconds a MOVE: the most that a chair takes. */
    private static OpensLikeThat slow() {
        OpensLikeThat x = Beach.wheels();
        x.person(0, 1);
        x.person(0, 1);
        Beach.law(x, "99");
        return x;
    }

    private static void secondsAreMet() {
        OpensLikeThat x = slow();
        Check.due("five MOVES", 495, x.way(107, 54, 1));
        Check.due("by 495", 0, x.show(107, 495, 0));
        Check.due("by 494", Beach.NOT, x.show(107, 494, 0));
        Beach.bytes(x, 0, 7);
        Check.due("open by 495", 1, x.opens(0, 0, 495));
        Check.due("open by 494", 0, x.opens(0, 0, 494));
        Check.due("best by 495", 1, x.bestFirst(0, 0, 495));
        Check.due("best by 494", 0, x.bestFirst(0, 0, 494));
        Check.due("in time by 495", Beach.NOT, x.tide(0, 0, 495));
        Check.due("late by 494", 0, x.tide(0, 0, 494));
        Check.due("all takes", 495, x.opens(0, 0, -1));
    }

    /** "by second s (0 .. 9999)": 20 chairs of 495 seconds and one of 99 are 9999. */
    private static void opensByTheLastSecond() {
        OpensLikeThat x = slow();
        int[] row = Beach.times(22, 7);
        row[20] = 18;
        row[21] = 18;
        Beach.bytes(x, 0, row);
        Check.due("21 by 9999", 21, x.opens(0, 0, 9999));
        Check.due("20 by 9998", 20, x.opens(0, 0, 9998));
        Check.due("none by 0", 0, x.opens(0, 0, 0));
        Check.due("all takes more", 10098, x.opens(0, 0, -1));
        Check.due("none left", 0, x.opens(0, 0, -2));
        Check.due("best by 9999: the short ones first", 21, x.bestFirst(0, 0, 9999));
        Beach.bytes(x, 0, Beach.times(60, 7));
        Check.due("60 by 9999", 20, x.opens(0, 0, 9999));
        Check.due("60 by 9900", 20, x.opens(0, 0, 9900));
        Check.due("60 by 9899", 19, x.opens(0, 0, 9899));
        Check.due("60 take", 29700, x.opens(0, 0, -1));
        Beach.law(x, "1");
        Check.due("60 by 300", 60, x.opens(0, 0, 300));
        Check.due("60 by 299", 59, x.opens(0, 0, 299));
        Beach.bytes(x, 0, Beach.times(60, 36));
        Check.due("60 CHAIRS by 0", 60, x.opens(0, 0, 0));
        Check.due("60 CHAIRS take", 0, x.opens(0, 0, -1));
        Beach.bytes(x, 0, 36, 18, 36);
        Check.due("in order: the last one waits", 1, x.opens(0, 0, 0));
        Check.due("in order: the last one is next", 3, x.opens(0, 0, 1));
    }

    /** "one that cannot be is left, 0 seconds". */
    private static void leftAreNotOpen() {
        OpensLikeThat x = slow();
        x.mend(0, 0, 0);
        // FOLD from 0 alone: 0 comes to FOLD 1 and no further; 36 and 41 are or come to be CHAIRS.
        Beach.bytes(x, 0, 0, 41, 18, 36, 53);
        Check.due("left", 2, x.opens(0, 0, -2));
        Check.due("left take none", 99 + 99 * 2, x.opens(0, 0, -1));
        Check.due("open by 0", 0, x.opens(0, 0, 0));
        Check.due("open by 99", 2, x.opens(0, 0, 99));
        Check.due("open by 297", 3, x.opens(0, 0, 297));
        Check.due("best by 0", 1, x.bestFirst(0, 0, 0));
        Check.due("best by 98", 1, x.bestFirst(0, 0, 98));
        Check.due("best by 99", 2, x.bestFirst(0, 0, 99));
        Check.due("best by 9999", 3, x.bestFirst(0, 0, 9999));
        Check.due("one that is left is late", 0, x.tide(0, 0, 999));
        Beach.bytes(x, 0, 41, 36, 0);
        Check.due("one that is left is late, though it takes none", 2, x.tide(0, 0, 999));
        Beach.bytes(x, 0, Beach.times(60, 0));
        Check.due("60 left", 60, x.opens(0, 0, -2));
        Check.due("60 left: open", 0, x.opens(0, 0, 9999));
        Check.due("60 left: best", 0, x.bestFirst(0, 0, 9999));
        Check.due("60 left: seconds", 0, x.opens(0, 0, -1));
        Check.due("60 left: two", 0, x.two(0, 1));
        Beach.law(x, "0");
        Beach.bytes(x, 0, 18, 36);
        Check.due("one that can nothing leaves all but CHAIRS", 1, x.opens(0, 0, -2));
        Check.due("a CHAIR is open", 1, x.opens(0, 0, 0));
    }

    /** "as many by second s as may be, in any order". */
    private static void bestFirstOfSixty() {
        OpensLikeThat x = slow();
        Beach.law(x, "1");
        int[] row = new int[60];
        for (int i = 0; i < 60; i++) {
            row[i] = new int[] {7, 36, 18, 0}[i % 4];
        }
        Beach.bytes(x, 0, row);
        // 15 each of 0, 1, 2 and 5 seconds.
        int[] by = {0, 1, 14, 15, 16, 17, 44, 45, 49, 50, 119, 120};
        int[] due = {15, 16, 29, 30, 30, 31, 44, 45, 45, 46, 59, 60};
        for (int i = 0; i < by.length; i++) {
            Check.due("best by " + by[i], due[i], x.bestFirst(0, 0, by[i]));
        }
        Check.due("the ROW itself stays", 7, (int) x.element(0, 0));
        Check.due("in order", 0, x.opens(0, 0, 4));
        Beach.bytes(x, 0, 0, 18, 18, 18);
        Check.due("three of 1 rather than one of 2", 3, x.bestFirst(0, 0, 3));
        Check.due("two of them by 2", 2, x.bestFirst(0, 0, 2));
    }

    /** "each k of the ROW must be open by second (k and 1) times t (1 .. 999)". */
    private static void tideToTheSecond() {
        OpensLikeThat x = slow();
        int[] row = Beach.times(60, 36);
        row[59] = 7;
        Beach.bytes(x, 0, row);
        Check.due("495 by 60 times 9", Beach.NOT, x.tide(0, 0, 9));
        Check.due("495 by 60 times 8", 59, x.tide(0, 0, 8));
        Beach.bytes(x, 0, Beach.times(60, 18));
        Check.due("99 each by 99", Beach.NOT, x.tide(0, 0, 99));
        Check.due("99 each by 98", 0, x.tide(0, 0, 98));
        row[59] = 53;
        row[58] = 18;
        Beach.bytes(x, 0, row);
        Check.due("99 by 59 times 2", 59, x.tide(0, 0, 2));
        Check.due("99 by 59 times 1", 58, x.tide(0, 0, 1));
        Check.due("999", Beach.NOT, x.tide(0, 0, 999));
        Beach.law(x, "1");
        Beach.bytes(x, 0, 18, 18, 0, 18);
        Check.due("1 by 1, 2 by 2, 4 by 3", 2, x.tide(0, 0, 1));
        Beach.bytes(x, 0, 36, 0, 18, 18);
        Check.due("0 by 1, 2 by 2, 3 by 3, 4 by 4", Beach.NOT, x.tide(0, 0, 1));
    }

    /** "if two of the PEOPLE take the next one as they are free (of like ones the first one)". */
    private static void twoShare() {
        OpensLikeThat x = Beach.wheels();
        for (int i = 0; i < 6; i++) {
            x.person(i, 1);
        }
        Beach.law(x, "1");
        for (int n = 0; n <= 60; n++) {
            if (n < 4 || n > 57) {
                Beach.bytes(x, 0, Beach.times(n, 18));
                Check.due("alike, " + n, n - (n + 1) / 2, x.two(0, 45));
                Check.due("alike, " + n, n - (n + 1) / 2, x.two(0, 54));
            }
        }
        // One of DEFT d takes d for a MOVE.
        Beach.law(x, "d");
        Beach.bytes(x, 0, 18, 18, 18);
        Check.due("1 alone: 3; with 2: 1, then 2 and 2", 3 - 2, x.two(0, 12));
        Check.due("2 alone: 6; with 1: 2, then 1 and 2", 6 - 2, x.two(0, 21));
        Check.due("5 alone: 15; with 1: 5, then 1 and 2", 15 - 5, x.two(0, 51));
        Check.due("1 alone: 3; with 5: 1 and 2, but 5", 0, x.two(0, 15));
        Beach.bytes(x, 0, 18, 18, 18, 18);
        Check.due("1 alone: 4; with 3: both are free at 3, the first takes it", 4 - 3, x.two(0, 13));
        // One of DEFT 0 can nothing: what it takes is left.
        Check.due("0 takes all: none is opened", 0, x.two(0, 1));
        Check.due("1 alone: 4; with 0: the first one takes 1, the others are left", 4 - 1, x.two(0, 10));
    }

    /** In TWO, too, one that is left takes no seconds, and not less. */
    private static void twoLeave() {
        OpensLikeThat x = Beach.wheels();
        Beach.people(x, 2);
        Beach.law(x, "1");
        x.mend(0, 0, 1);
        Beach.bytes(x, 0, 0, 18, 18, 18);
        Check.due("the first leaves one, then 1, 1 and 2", 3 - 2, x.two(0, 1));
        Beach.bytes(x, 0, 18, 0, 18, 18);
        Check.due("the other leaves one, then 1 and 2", 3 - 2, x.two(0, 1));
        Beach.bytes(x, 0, 0, 0, 0);
        Check.due("all are left", 0, x.two(0, 1));
        Beach.bytes(x, 0, 18, 0);
        Check.due("one is opened, one left", 0, x.two(0, 1));
    }

    /** Found with 60 MOVES: the last counts. */
    private static void foundOfSixty() {
        OpensLikeThat x = Beach.wheels();
        x.move(1, 0);
        x.person(0, 1);
        int[] row = Beach.times(60, 0);
        Beach.bytes(x, 0, row);
        Check.due("60 FOLDS MAY be made", Beach.NOT, x.judge(0, 18));
        Check.due("60 FOLDS end where they began", 18, x.ends(0, 18));
        Check.due("one can", 1, x.who(0, 18));
        Check.due("begun there", 18, x.begun(0, 18, 1));
        x.put(0, 59, 4);
        Check.due("the last MAY be made of FOLD 0", Beach.NOT, x.judge(0, 18));
        Check.due("the last MAY not, of FOLD 1", 59, x.judge(0, 36));
        Check.due("as far as they MAY", 18, x.ends(0, 36));
        Check.due("nobody can", 0, x.who(0, 36));
        Check.due("begun", 18, x.begun(0, 18, 1));
        Check.due("not begun", Beach.NOT, x.begun(0, 36, 1));
        for (int none : new int[] {5, 6, 127, -1, -128}) {
            x.put(0, 59, none);
            Check.due("the last is none: " + none, 59, x.judge(0, 0));
            Check.due("the STATE ahead of it: " + none, 36, x.ends(0, 0));
            Check.due("nobody can: " + none, 0, x.who(0, 0));
            Check.due("not begun: " + none, 0, x.begun(0, 36, 0));
            x.put(0, 0, none);
            Check.due("the first is none: " + none, 0, x.judge(0, 53));
            Check.due("it stays: " + none, 53, x.ends(0, 53));
            x.put(0, 0, 0);
        }
        Beach.bytes(x, 0);
        for (int s : new int[] {0, 53}) {
            Check.due("nothing made: judge", Beach.NOT, x.judge(0, s));
            Check.due("nothing made: ends", s, x.ends(0, s));
            Check.due("nothing made: who", 1, x.who(0, s));
            Check.due("nothing made: begun", 1, x.begun(0, s, 0));
            Check.due("nothing made: begun at", s, x.begun(0, s, 1));
        }
    }

    /** "which PEOPLE (bits) can make them all". */
    private static void whoOfSix() {
        OpensLikeThat x = Beach.full();
        Beach.bytes(x, 0, 0, 11, 1);
        Check.due("all six", 63, x.who(0, 0));
        Beach.law(x, "d");
        Check.due("none by DEFT 0", 0, x.who(0, 0));
        x.mend(5, 3, 1);
        Check.due("the last", 32, x.who(0, 0));
        x.mend(0, 3, 9);
        Check.due("the first and the last", 33, x.who(0, 0));
        Beach.law(x, "k");
        x.mend(2, 4, 2051);
        x.mend(3, 4, 2049);
        x.mend(4, 4, 4095);
        Check.due("who KNOWS all three", 20, x.who(0, 0));
        x.mend(11, 0, 1);
        Check.due("one MAY not be made", 0, x.who(0, 0));
        Check.due("it MAY, from SIDE 1", 20, x.who(0, 1));
    }

    /** "from how many STATES all of them MAY be made and end in a told one; the least". */
    private static void begunFromOne() {
        OpensLikeThat x = Beach.wheels();
        Beach.bytes(x, 0, 0, 1, 2, 3);
        for (int end = 0; end < 54; end++) {
            int begun = (end / 18 + 2) % 3 * 18 + (end / 6 + 2) % 3 * 6 + (end / 2 + 2) % 3 * 2 + (end + 1) % 2;
            Check.due("how many come to " + end, 1, x.begun(0, end, 0));
            Check.due("which comes to " + end, begun, x.begun(0, end, 1));
        }
        x.mend(0, 0, 2);
        Check.due("from FOLD 2 to 0", 1, x.begun(0, 9, 0));
        Check.due("from FOLD 0 it MAY not", 0, x.begun(0, 27, 0));
        Check.due("from FOLD 0 it MAY not", Beach.NOT, x.begun(0, 27, 1));
    }

    /** "z = z * 1103515245 + 12345 (an int; SEED at first) ahead of each MOVE", also of a chair that stays. */
    private static void drawnAsTold() {
        int[][] wheels = {{0, 1, 0, 3, 1}, {1, 1, 3, 3, 1}, {2, 1, 3, 2, 1}, {3, 1, 3, 3, 1}, {0, 2, 2, 3, 1}};
        // FOLD from 0 and from 1 alone: whoever comes to FOLD 2 stays there, while z goes on.
        int[][] stays = {{0, 1, 0, 3, 1}, {0, 1, 1, 3, 1}, {3, 1, 0, 3, 1}};
        int[][] twelve = {{0, 1, 3, 3, 1}, {1, 1, 3, 3, 1}, {2, 1, 3, 3, 1}, {3, 1, 0, 3, 1}, {0, 2, 3, 3, 1}, {1, 2, 3, 3, 1},
            {2, 2, 3, 3, 1}, {3, 2, 3, 1, 1}, {0, 1, 3, 3, 1}, {1, 1, 2, 2, 1}, {2, 1, 3, 3, 1}, {3, 1, 1, 0, 1}};
        for (int seed : new int[] {0, 1, -1, 12345, Beach.MOST, Beach.LEAST, -987654321}) {
            for (int nm : new int[] {101, 160, 207, 1013, 5001, 5060}) {
                drawnOf(wheels, 0, seed, nm);
                drawnOf(wheels, 36, seed, nm);
                drawnOf(wheels, 53, seed, nm);
                drawnOf(stays, 0, seed, nm);
                drawnOf(stays, 18, seed, nm);
                drawnOf(twelve, 36, seed, nm);
            }
        }
    }

    private static void drawnOf(int[][] fives, int state, int seed, int nm) {
        int z = seed;
        int[] due = {0, 0};
        for (int n = 0; n < nm / 100; n++) {
            int at = state;
            boolean was = isChair(at);
            for (int m = 0; m < nm % 100; m++) {
                z = z * 1103515245 + 12345;
                int[] can = canLead(fives, at);
                at = can.length == 0 ? at : can[(z >>> 8) % can.length];
                was |= isChair(at);
            }
            due[0] += isChair(at) ? 1 : 0;
            due[1] += was ? 1 : 0;
        }
        OpensLikeThat x = new OpensLikeThat();
        for (int[] five : fives) {
            Beach.bytes(x, 0, five);
            x.moves(0, 0, 1);
        }
        Check.due("CHAIRS at the ends of " + nm + " by " + seed, due[0], x.drawn(state, seed, nm, 0));
        Check.due("CHAIRS on the way of " + nm + " by " + seed, due[1], x.drawn(state, seed, nm, 1));
    }

    /** Where all that MAY be made lead, by numbers. */
    private static int[] canLead(int[][] fives, int s) {
        int[] parts = {s / 18, s / 6 % 3, s / 2 % 3, s % 2};
        int[] weight = {18, 6, 2, 1};
        int[] can = new int[12];
        int how = 0;
        for (int[] f : fives) {
            int part = parts[f[0]];
            if ((f[2] == 3 || f[2] == part) && (f[3] == 3 || f[3] == parts[0])) {
                can[how++] = s + weight[f[0]] * ((part + f[1]) % (f[0] == 3 ? 2 : 3) - part);
            }
        }
        return java.util.Arrays.copyOf(can, how);
    }

    private static boolean isChair(int s) {
        return s == 36 || s == 38 || s == 40;
    }
}
