/** Promises 19 to 29: learners, attendants, chairs found and drawn. */
public final class LearnersTest {
    public static void main(String[] args) {
        learn();
        show();
        opens();
        bestFirst();
        tide();
        two();
        chairsEnd();
        judgeAndEnds();
        who();
        begun();
        drawn();
        refusals();
        Check.end();
    }

    private static void learn() {
        OpensLikeThat x = Beach.wheels();
        x.person(0, 2);
        x.mend(0, 4, 2048);
        Beach.bytes(x, 0, 0, 1, 0, 3, 3, 3);
        Check.due("seen LEARNS times or more, and KNOWN", 2048 + 8 + 1, x.learn(0, 0));
        x.mend(0, 5, 3);
        Check.due("LEARNS 3", 2048 + 8, x.learn(0, 0));
        x.mend(0, 5, 4);
        Check.due("LEARNS 4", 2048, x.learn(0, 0));
        Check.due("it is a question only", 2048, x.of(0, 4));
        x.mend(0, 5, 1);
        Beach.bytes(x, 0, 2, 4, 1);
        Check.due("as far as such there are", 2048 + 4, x.learn(0, 0));
        Beach.bytes(x, 0, -1, 1);
        Check.due("as far as such there are", 2048, x.learn(0, 0));
        Beach.bytes(x, 0);
        Check.due("none", 2048, x.learn(0, 0));
    }

    private static void show() {
        OpensLikeThat x = Beach.wheels();
        x.person(0, 3);
        // Each MOVE takes 4, or 2 if it is KNOWN: from 0 two FOLDS, from 7 CLOTH twice and SIDE, too.
        Check.due("none needed", 0, x.show(100, 8, 0));
        Check.due("none needed", 0, x.show(100, 8, 1));
        Check.due("one", 1, x.show(100, 7, 0));
        Check.due("the FOLD", 1, x.show(100, 4, 1));
        Check.due("never sooner", Beach.NOT, x.show(100, 3, 0));
        Check.due("never sooner", Beach.NOT, x.show(100, 3, 1));
        Check.due("of like ones the least", 1, x.show(107, 16, 1));
        Check.due("two", 2, x.show(107, 15, 0));
        Check.due("FOLD and CLOTH", 3, x.show(107, 12, 1));
        Check.due("three", 3, x.show(107, 10, 0));
        Check.due("three", 11, x.show(107, 10, 1));
        Check.due("it is a CHAIR", 0, x.show(136, 0, 0));
        x.mend(0, 4, 1);
        Check.due("it KNOWS the FOLD", 1, x.show(107, 12, 0));
        Check.due("it KNOWS the FOLD", 2, x.show(107, 12, 1));
        Check.due("nobody", Beach.BAD, x.show(0, 8, 0));
        Check.due("no seconds", Beach.BAD, x.show(100, -1, 0));
        Check.due("too many seconds", Beach.BAD, x.show(100, 1000, 0));
        Check.due("999 seconds", 0, x.show(100, 999, 0));
        Check.due("no such what", Beach.BAD, x.show(100, 8, 2));
        Check.due("no such what", Beach.BAD, x.show(100, 8, -1));
        // Four are too many: each part takes 0 until it is KNOWN.
        Beach.law(x, "k");
        x.mend(0, 4, 0);
        Check.due("FOLD, CLOTH and SIDE", 11, x.show(107, 9, 1));
        x.mend(3, 1, 2);
        x.mend(0, 0, 0);
        x.move(1, 1);
        Check.due("four would be needed", Beach.NOT, x.show(107, 9, 0));
        Check.due("three", 19, x.show(106, 9, 1));
        // A law may make it worse to KNOW: then the ways change, too.
        Beach.law(x, "m<4?1+k*50;1");
        Check.due("none", 0, x.show(107, 5, 0));
        x.mend(0, 4, 1);
        Check.due("it cannot forget", Beach.NOT, x.show(107, 5, 0));
    }

    /** Seconds of chairs in STATES 0, 36, 18, 7: 8, 0, 4, 20. */
    private static OpensLikeThat beach() {
        OpensLikeThat x = Beach.wheels();
        x.person(0, 1);
        x.person(9, 1);
        return x;
    }

    private static void opens() {
        OpensLikeThat x = beach();
        Beach.bytes(x, 0, 0, 36, 18, 7);
        int[] by = {0, 7, 8, 11, 12, 31, 32, 9999};
        int[] due = {0, 0, 2, 2, 3, 3, 4, 4};
        for (int i = 0; i < by.length; i++) {
            Check.due("open by " + by[i], due[i], x.opens(0, 0, by[i]));
        }
        Check.due("all takes", 32, x.opens(0, 0, -1));
        Check.due("none left", 0, x.opens(0, 0, -2));
        Check.due("too late", Beach.BAD, x.opens(0, 0, 10000));
        Check.due("no such", Beach.BAD, x.opens(0, 0, -3));
        Check.due("the other, DEFT 9: 1 each", 8, x.opens(0, 1, -1));
        x.mend(1, 0, 0);
        Beach.bytes(x, 0, 12, 0, 53, 18);
        Check.due("left: no way", 2, x.opens(0, 0, -2));
        Check.due("left take none", 12, x.opens(0, 0, -1));
        Check.due("left are not open", 2, x.opens(0, 0, 9999));
        Check.due("the first", 1, x.opens(0, 0, 8));
        Beach.bytes(x, 0);
        Check.due("no chairs", 0, x.opens(0, 0, 9));
        Check.due("no chairs", 0, x.opens(0, 0, -1));
        Check.due("no chairs", 0, x.opens(0, 0, -2));
        int[] sixty = new int[60];
        for (int i = 0; i < 60; i++) {
            sixty[i] = 18;
        }
        Beach.bytes(x, 0, sixty);
        Check.due("sixty", 240, x.opens(0, 0, -1));
        Check.due("thirty of sixty", 30, x.opens(0, 0, 120));
    }

    private static void bestFirst() {
        OpensLikeThat x = beach();
        Beach.bytes(x, 0, 7, 0, 36, 18);
        int[] by = {0, 3, 4, 11, 12, 31, 32, 9999};
        int[] due = {1, 1, 2, 2, 3, 3, 4, 4};
        for (int i = 0; i < by.length; i++) {
            Check.due("open by " + by[i], due[i], x.bestFirst(0, 0, by[i]));
        }
        Check.due("in order it is not so", 0, x.opens(0, 0, 12));
        x.mend(1, 0, 0);
        Beach.bytes(x, 0, 53, 0, 12, 36, 18);
        Check.due("two left are not open", 3, x.bestFirst(0, 0, 12));
        Check.due("no such", Beach.BAD, x.bestFirst(0, 0, -1));
        Check.due("too late", Beach.BAD, x.bestFirst(0, 0, 10000));
        Beach.bytes(x, 0);
        Check.due("no chairs", 0, x.bestFirst(0, 0, 9));
    }

    private static void tide() {
        OpensLikeThat x = beach();
        Beach.bytes(x, 0, 0, 36, 18, 7);
        Check.due("in time", Beach.NOT, x.tide(0, 0, 8));
        Check.due("the first is late", 0, x.tide(0, 0, 7));
        Beach.bytes(x, 0, 18, 18, 0, 36);
        Check.due("in time to the second", Beach.NOT, x.tide(0, 0, 6));
        Check.due("the third is late", 2, x.tide(0, 0, 5));
        x.mend(1, 0, 0);
        Beach.bytes(x, 0, 36, 53, 36);
        Check.due("one left is late", 1, x.tide(0, 0, 999));
        Beach.bytes(x, 0);
        Check.due("no chairs", Beach.NOT, x.tide(0, 0, 1));
        Check.due("no such", Beach.BAD, x.tide(0, 0, 0));
        Check.due("no such", Beach.BAD, x.tide(0, 0, 1000));
    }

    private static void two() {
        OpensLikeThat x = beach();
        // The first: 8, 4, 20, 8; the other: 2, 1, 5, 2.
        Beach.bytes(x, 0, 0, 18, 7, 0);
        Check.due("first 0 to 8, other 0 to 1 to 6 to 8", 40 - 8, x.two(0, 1));
        Check.due("the other ends at 12", 0, x.two(0, 10));
        Beach.bytes(x, 0, 0, 18, 7);
        Check.due("first 0 to 2 to 7, other 0 to 4", 8 - 7, x.two(0, 10));
        Beach.bytes(x, 0, 18, 7);
        Check.due("the other is slower than all", 0, x.two(0, 10));
        Beach.bytes(x, 0, 36, 18);
        Check.due("of like ones the first", 0, x.two(0, 1));
        Beach.bytes(x, 0);
        Check.due("no chairs", 0, x.two(0, 1));
        Check.due("one twice", Beach.BAD, x.two(0, 11));
        Check.due("no one", Beach.BAD, x.two(0, 2));
        Check.due("no one", Beach.BAD, x.two(0, 20));
        Check.due("below 0", Beach.BAD, x.two(0, -1));
        Check.due("below 0", Beach.BAD, x.two(0, -10));
        Check.due("far off", Beach.BAD, x.two(0, Integer.MIN_VALUE));
        // The other cannot fold: what it takes is left, in 0 seconds, and it takes the next.
        Beach.bytes(x, 0, 18, 0, 0, 18);
        Beach.law(x, "d=9?m;4");
        Check.due("the other leaves all behind the first", 24 - 4, x.two(0, 1));
    }

    /** The first byte that is no STATE ends the chairs: those behind it are none, too. */
    private static void chairsEnd() {
        OpensLikeThat x = beach();
        for (int none : new int[] {-128, -1, 54, 55, 56, 100, 127}) {
            String told = " behind " + none;
            Beach.bytes(x, 0, 0, 18, none, 36, 18);
            Check.due("opens" + told, 2, x.opens(0, 0, 9999));
            Check.due("opens -1" + told, 12, x.opens(0, 0, -1));
            Check.due("opens -2" + told, 0, x.opens(0, 0, -2));
            Check.due("bestFirst" + told, 2, x.bestFirst(0, 0, 9999));
            Check.due("bestFirst by 4" + told, 1, x.bestFirst(0, 0, 4));
            Check.due("tide" + told, Beach.NOT, x.tide(0, 0, 8));
            Check.due("two" + told, 12 - 8, x.two(0, 1));
            Beach.bytes(x, 0, none, 36);
            Check.due("opens at once" + told, 0, x.opens(0, 0, 0));
            Check.due("opens -1 at once" + told, 0, x.opens(0, 0, -1));
            Check.due("opens -2 at once" + told, 0, x.opens(0, 0, -2));
            Check.due("bestFirst at once" + told, 0, x.bestFirst(0, 0, 0));
            Check.due("tide at once" + told, Beach.NOT, x.tide(0, 0, 1));
            Check.due("two at once" + told, 0, x.two(0, 1));
        }
        Beach.bytes(x, 0, 53, 0, 53);
        Check.due("53 and 0 are STATES", 3, x.opens(0, 0, 9999));
        // What a longer ROW had behind its end is not there any more.
        Beach.bytes(x, 0, 36, 54, 36);
        Beach.bytes(x, 0, 36, 36, 36);
        Check.due("all three", 3, x.opens(0, 0, 0));
        Check.due("that one not put is STATE 0", 8, restOfRow(x));
    }

    private static int restOfRow(OpensLikeThat x) {
        x.row(0, 0, 2);
        x.put(0, 0, 36);
        return x.opens(0, 0, -1);
    }

    private static void judgeAndEnds() {
        OpensLikeThat x = Beach.wheels();
        x.mend(1, 1, 2);
        Beach.bytes(x, 0, 0, 0, 1, 0, 1, 2);
        Check.due("the CLOTH of a SHUT one", 4, x.judge(0, 0));
        Check.due("the STATE ahead of it", 6, x.ends(0, 0));
        Check.due("at once", 2, x.judge(0, 18));
        Check.due("at once", 0, x.ends(0, 18));
        Beach.bytes(x, 0, 0, 0, 1, 2);
        Check.due("all", Beach.NOT, x.judge(0, 0));
        Check.due("all", 36 + 6 + 2, x.ends(0, 0));
        Beach.bytes(x, 0, 0, 4, 0);
        Check.due("none such", 1, x.judge(0, 0));
        Check.due("none such", 18, x.ends(0, 0));
        Beach.bytes(x, 0, -1, 0);
        Check.due("none such", 0, x.judge(0, 0));
        Check.due("none such", 5, x.ends(0, 5));
        Beach.bytes(x, 0);
        Check.due("nothing made", Beach.NOT, x.judge(0, 53));
        Check.due("nothing made", 53, x.ends(0, 53));
    }

    private static void who() {
        OpensLikeThat x = Beach.wheels();
        Beach.bytes(x, 0, 0, 1);
        Check.due("no PEOPLE", 0, x.who(0, 0));
        x.person(0, 1);
        x.person(5, 1);
        x.person(9, 1);
        Check.due("all three", 7, x.who(0, 0));
        Beach.law(x, "d-m*5");
        Check.due("of the first MOVE 1 and 2, of the second 2", 4, x.who(0, 0));
        Beach.bytes(x, 0, 0);
        Check.due("two", 6, x.who(0, 0));
        Beach.bytes(x, 0);
        Check.due("nothing to make", 7, x.who(0, 0));
        Beach.bytes(x, 0, 0, 4);
        Check.due("none such", 0, x.who(0, 0));
        x.mend(0, 0, 0);
        Beach.bytes(x, 0, 0, 0);
        Check.due("it MAY not be", 0, x.who(0, 0));
        Beach.law(x, "f=1?0;2");
        x.mend(0, 0, 3);
        Check.due("none on the way", 0, x.who(0, 0));
        Check.due("all from behind it", 7, x.who(0, 36));
    }

    private static void begun() {
        OpensLikeThat x = Beach.wheels();
        Beach.bytes(x, 0, 0, 2);
        Check.due("one", 1, x.begun(0, 20, 0));
        Check.due("one", 0, x.begun(0, 20, 1));
        x.move(32, 3);
        x.mend(0, 0, 0);
        Check.due("FOLD from 0 alone", 0, x.begun(0, 36, 0));
        Check.due("FOLD from 0 alone", Beach.NOT, x.begun(0, 36, 1));
        Beach.bytes(x, 0, 4);
        Check.due("it stays", 9, x.begun(0, 9, 1));
        Beach.bytes(x, 0);
        Check.due("it stays", 1, x.begun(0, 53, 0));
        Check.due("it stays", 53, x.begun(0, 53, 1));
        Beach.bytes(x, 0, 0, 9);
        Check.due("none such", 0, x.begun(0, 18, 0));
        Check.due("no such what", Beach.BAD, x.begun(0, 0, 2));
        Check.due("no such what", Beach.BAD, x.begun(0, 0, -1));
    }

    private static void drawn() {
        OpensLikeThat x = new OpensLikeThat();
        Check.due("it stays", 0, x.drawn(0, 7, 5060, 0));
        Check.due("it stays a CHAIR", 50, x.drawn(36, 7, 5060, 0));
        Check.due("a CHAIR at first", 50, x.drawn(36, 7, 5060, 1));
        x.move(1, 3);
        Check.due("FOLD twice", 3, x.drawn(0, 7, 302, 0));
        Check.due("FOLD three times", 0, x.drawn(0, 7, 303, 0));
        Check.due("it was one", 3, x.drawn(0, 7, 303, 1));
        Check.due("it was one at first", 3, x.drawn(36, 7, 301, 1));
        Check.due("it is one no more", 0, x.drawn(36, 7, 301, 0));
        int[] wrong = {0, 100, 60, 161, 5101, 99, 199, -101, Integer.MIN_VALUE, Integer.MAX_VALUE};
        for (int nm : wrong) {
            Check.due("drawn nm " + nm, Beach.BAD, x.drawn(0, 7, nm, 0));
        }
        Check.due("no STATE", Beach.BAD, x.drawn(54, 7, 101, 0));
        Check.due("no STATE", Beach.BAD, x.drawn(-1, 7, 101, 0));
        Check.due("no such what", Beach.BAD, x.drawn(0, 7, 101, 2));
        Check.due("no such what", Beach.BAD, x.drawn(0, 7, 101, -1));
        // One chair, one MOVE: z of SEED 0 is 12345, shifted 48; two MOVES that MAY be made.
        OpensLikeThat y = new OpensLikeThat();
        y.move(1, 1);
        y.move(31, 3);
        y.move(1, 3);
        Check.due("48 % 2: the first that MAY", 0, y.drawn(36, 0, 101, 0));
        Check.due("48 % 3: FOLD", 1, y.drawn(18, 0, 101, 0));
        // z of SEED -1 is -1103515245 + 12345, so the shift must be one without a sign.
        int z = -1103515245 + 12345;
        Check.due("below 0", (z >>> 8) % 3 == 1 ? 0 : 1, y.drawn(18, -1, 101, 0));
    }

    private static void refusals() {
        OpensLikeThat x = beach();
        x.body(0);
        x.keep(1, 0);
        x.row(2, 1, 4);
        x.row(3, 4, 4);
        int[] shelves = {-1, 6, 0, 1, 2, 3};
        int[] due = {Beach.BAD, Beach.BAD, Beach.BARE, Beach.KIND, Beach.KIND, Beach.KIND};
        for (int i = 0; i < shelves.length; i++) {
            int shelf = shelves[i];
            Check.due("learn " + shelf, due[i], x.learn(shelf, 0));
            Check.due("opens " + shelf, due[i], x.opens(shelf, 0, 0));
            Check.due("bestFirst " + shelf, due[i], x.bestFirst(shelf, 0, 0));
            Check.due("tide " + shelf, due[i], x.tide(shelf, 0, 1));
            Check.due("two " + shelf, due[i], x.two(shelf, 1));
            Check.due("judge " + shelf, due[i], x.judge(shelf, 0));
            Check.due("ends " + shelf, due[i], x.ends(shelf, 0));
            Check.due("who " + shelf, due[i], x.who(shelf, 0));
            Check.due("begun " + shelf, due[i], x.begun(shelf, 0, 0));
            Check.due("learn BAD first", Beach.BAD, x.learn(shelf, 2));
            Check.due("learn nobody", Beach.BAD, x.learn(shelf, -1));
            Check.due("opens BAD first", Beach.BAD, x.opens(shelf, 2, 0));
            Check.due("opens nobody", Beach.BAD, x.opens(shelf, -1, 0));
            Check.due("opens BAD first", Beach.BAD, x.opens(shelf, 0, -3));
            Check.due("bestFirst BAD first", Beach.BAD, x.bestFirst(shelf, 2, 0));
            Check.due("bestFirst BAD first", Beach.BAD, x.bestFirst(shelf, 0, -1));
            Check.due("tide BAD first", Beach.BAD, x.tide(shelf, 2, 1));
            Check.due("tide BAD first", Beach.BAD, x.tide(shelf, 0, 0));
            Check.due("two BAD first", Beach.BAD, x.two(shelf, 0));
            Check.due("judge BAD first", Beach.BAD, x.judge(shelf, 54));
            Check.due("ends BAD first", Beach.BAD, x.ends(shelf, -1));
            Check.due("who BAD first", Beach.BAD, x.who(shelf, 54));
            Check.due("begun BAD first", Beach.BAD, x.begun(shelf, 54, 0));
            Check.due("begun BAD first", Beach.BAD, x.begun(shelf, 0, 2));
        }
    }
}
