/** Promises 30 to 36: the one chair in deed, images, changes undone. */
public final class DeedTest {
    public static void main(String[] args) {
        make();
        makeTeaches();
        eachCountsAlone();
        layAndLed();
        images();
        undoAndRedo();
        fortyChanges();
        mixedChanges();
        deedsAreNoChanges();
        lastOneLastMove();
        doneLearnsTimes();
        chairsComeTo();
        secondsPass();
        imageOfNothing();
        whoCameSince();
        imageKeepsAll();
        thirtyNineToFortyOne();
        behindAnUndo();
        eachNumberUndone();
        deedsBetween();
        Check.end();
    }

    private static void leds(String when, OpensLikeThat x, int... due) {
        for (int what = 0; what < 4; what++) {
            Check.due(when + ": led(" + what + ")", due[what], x.led(what));
        }
    }

    private static void make() {
        OpensLikeThat x = Beach.wheels();
        Check.due("no one", Beach.BAD, x.make(0, 0));
        x.person(0, 9);
        x.person(9, 9);
        Check.due("nobody", Beach.BAD, x.make(-1, 0));
        Check.due("no move", Beach.BAD, x.make(0, 4));
        Check.due("no move", Beach.BAD, x.make(0, -1));
        Check.due("FOLD", 18, x.make(0, 0));
        leds("one MOVE", x, 1, 4, 0, 0);
        Check.due("FOLD", 36, x.make(1, 0));
        leds("a CHAIR", x, 2, 5, 1, 0);
        Check.due("NOTCH", 38, x.make(1, 2));
        leds("it was one ahead", x, 3, 6, 1, 0);
        Check.due("SIDE", 39, x.make(1, 3));
        Check.due("SIDE", 38, x.make(1, 3));
        leds("a CHAIR again", x, 5, 8, 2, 0);
        x.mend(0, 0, 0);
        Check.due("it MAY not be made", Beach.NOT, x.make(0, 0));
        Beach.law(x, "d");
        Check.due("one cannot", Beach.NOT, x.make(0, 3));
        Check.due("the other can", 39, x.make(1, 3));
        leds("NOT leads to nothing", x, 6, 17, 2, 0);
        Check.due("of(0, 8)", 39, x.of(0, 8));
    }

    private static void makeTeaches() {
        OpensLikeThat x = Beach.wheels();
        x.person(0, 2);
        x.person(0, 1);
        x.make(0, 3);
        Check.due("once", 0, x.of(0, 4));
        Check.due("seconds of a second time", 4, x.takes(0, 3, 0));
        x.make(0, 3);
        Check.due("LEARNS times", 8, x.of(0, 4));
        Check.due("the second time took as the first", 8, x.led(1));
        x.make(0, 3);
        Check.due("the third time one KNOWS it", 10, x.led(1));
        x.make(1, 0);
        Check.due("at once", 1, x.of(1, 4));
        Check.due("each for oneself", 8, x.of(0, 4));
        x.mend(0, 4, 0);
        x.make(0, 3);
        Check.due("LEARNS times and more", 8, x.of(0, 4));
        x.mend(0, 5, 9);
        x.make(0, 1);
        Check.due("not yet", 8, x.of(0, 4));
        x.mend(0, 5, 1);
        Check.due("not by mending", 8, x.of(0, 4));
        x.make(0, 1);
        Check.due("but by a deed", 10, x.of(0, 4));
        x.mend(0, 0, 0);
        x.make(0, 0);
        x.make(0, 0);
        Check.due("NOT teaches nothing", 10, x.of(0, 4));
    }

    /** What one has done is not what another has done, nor another MOVE; an image keeps them all. */
    private static void eachCountsAlone() {
        OpensLikeThat x = new OpensLikeThat();
        for (int m = 0; m < 12; m++) {
            x.move(31, 3);
        }
        for (int one = 0; one < 6; one++) {
            x.person(0, 2);
        }
        for (int one = 0; one < 6; one++) {
            for (int m = 0; m < 12; m++) {
                x.make(one, m);
            }
            Check.due("each MOVE once", 0, x.of(one, 4));
        }
        x.image();
        for (int one = 0; one < 6; one++) {
            for (int m = one; m < 12; m += 2) {
                x.make(one, m);
            }
        }
        Check.due("every other MOVE twice", 0x555, x.of(0, 4));
        Check.due("every other MOVE twice", 0xaa0, x.of(5, 4));
        x.back();
        for (int one = 0; one < 6; one++) {
            Check.due("each MOVE once again", 0, x.of(one, 4));
            x.mend(one, 5, 3);
            x.make(one, 11);
            Check.due("twice of three times", 0, x.of(one, 4));
            x.make(one, 11);
            Check.due("three times", 2048, x.of(one, 4));
        }
    }

    private static void layAndLed() {
        OpensLikeThat x = new OpensLikeThat();
        Check.due("lay(-1)", Beach.BAD, x.lay(-1));
        Check.due("lay(54)", Beach.BAD, x.lay(54));
        Check.due("lay(53)", 0, x.lay(53));
        Check.due("lay(53) again", 53, x.lay(53));
        Check.due("lay(0)", 53, x.lay(0));
        leds("laid", x, 0, 0, 0, 3);
        Check.due("led(-1)", Beach.BAD, x.led(-1));
        Check.due("led(4)", Beach.BAD, x.led(4));
        x.move(31, 3);
        x.person(0, 1);
        x.lay(37);
        x.make(0, 0);
        leds("a MOVE to a CHAIR", x, 1, 4, 1, 4);
    }

    private static void images() {
        OpensLikeThat x = Beach.wheels();
        x.person(0, 2);
        Check.due("none", Beach.STATE, x.back());
        x.make(0, 3);
        x.make(0, 2);
        x.mend(0, 4, 1024);
        x.lay(5);
        Check.due("image", 2, x.image());
        leds("at the image", x, 2, 8, 0, 1);
        x.make(0, 3);
        x.make(0, 2);
        x.make(0, 2);
        x.person(0, 1);
        x.make(1, 0);
        x.lay(9);
        x.mend(0, 3, 6);
        x.mend(0, 5, 3);
        Check.due("what they KNOW", 1024 + 8 + 4, x.of(0, 4));
        Check.due("what they KNOW", 1, x.of(1, 4));
        Check.due("back", 2, x.back());
        leds("back", x, 2, 8, 0, 1);
        Check.due("the STATE", 5, x.of(0, 8));
        Check.due("KNOWS as it was", 1024, x.of(0, 4));
        Check.due("who came since KNOWS nothing", 0, x.of(1, 4));
        Check.due("DEFT is not of the image", 6, x.of(0, 3));
        Check.due("LEARNS is not of the image", 3, x.of(0, 5));
        x.make(0, 2);
        Check.due("done once and again: twice", 1024, x.of(0, 4));
        x.make(0, 2);
        Check.due("done three times", 1024 + 4, x.of(0, 4));
        x.mend(1, 5, 2);
        x.make(1, 0);
        Check.due("who came since has done nothing", 0, x.of(1, 4));
        Check.due("back again", 2, x.back());
        Check.due("the STATE again", 5, x.of(0, 8));
        x.make(0, 3);
        Check.due("a later image", 3, x.image());
        x.make(0, 3);
        x.lay(0);
        Check.due("back to the later", 3, x.back());
        Check.due("its STATE", 4, x.of(0, 8));
    }

    private static void undoAndRedo() {
        OpensLikeThat x = new OpensLikeThat();
        x.move(1, 3);
        x.person(4, 2);
        Check.due("none", Beach.STATE, x.undo());
        int[] v = {1, 2, 5, 8, 77, 6};
        int[] was = {3, 3, 1, 4, 0, 2};
        for (int what = 0; what < 6; what++) {
            x.mend(0, what, v[what]);
            x.mend(0, what, v[what]);
            Check.due("the same number is none", what + 1, x.count(3));
        }
        Check.due("nothing to do again", Beach.STATE, x.redo());
        for (int what = 5; what >= 0; what--) {
            Check.due("as told " + what, v[what], x.of(0, what));
            Check.due("undo", what, x.undo());
            Check.due("count", what, x.count(3));
            Check.due("as it was " + what, was[what], x.of(0, what));
        }
        Check.due("no more", Beach.STATE, x.undo());
        for (int what = 0; what < 6; what++) {
            Check.due("redo", 5 - what, x.redo());
            Check.due("as told again " + what, v[what], x.of(0, what));
        }
        Check.due("no more", Beach.STATE, x.redo());
        x.undo();
        x.undo();
        x.undo();
        x.mend(0, 2, 5);
        Check.due("the same number is none: redo stays", 2, x.redo());
        x.mend(0, 2, 9);
        Check.due("another came behind", Beach.STATE, x.redo());
        Check.due("undo of that", 4, x.undo());
        Check.due("as it was", 5, x.of(0, 2));
        Check.due("a BAD one is none", Beach.BAD, x.mend(0, 2, 10));
        Check.due("redo of that", 0, x.redo());
        x.undo();
        x.undo();
        x.undo();
        x.undo();
        x.undo();
        Check.due("FROM leads again", 36 - 18, x.leads(0, 0));
        x.redo();
        Check.due("FROM 1", Beach.NOT, x.leads(0, 0));
        Check.due("FROM 1", 36, x.leads(0, 18));
        x.redo();
        Check.due("NEEDS 2", Beach.NOT, x.leads(0, 18));
    }

    private static void fortyChanges() {
        OpensLikeThat x = new OpensLikeThat();
        x.person(0, 1);
        for (int i = 1; i <= 45; i++) {
            Check.due("mend", i - 1, x.mend(0, 4, i));
            Check.due("40 at most", Math.min(40, i), x.count(3));
        }
        for (int i = 39; i >= 0; i--) {
            Check.due("undo", i, x.undo());
            Check.due("KNOWS", i + 5, x.of(0, 4));
        }
        Check.due("no more", Beach.STATE, x.undo());
        Check.due("as far as they are kept", 5, x.of(0, 4));
        for (int i = 39; i >= 0; i--) {
            Check.due("redo", i, x.redo());
        }
        Check.due("all again", 45, x.of(0, 4));
    }

    /** Changes of many numbers, so many that the first are forgotten, back and on again. */
    private static void mixedChanges() {
        OpensLikeThat x = new OpensLikeThat();
        for (int i = 0; i < 6; i++) {
            x.move(1, 3);
            x.person(0, 1);
        }
        int[][] told = new int[50][];
        int[] was = new int[50];
        for (int i = 0; i < 50; i++) {
            int what = i * 7 % 6;
            int number = i * 5 % 6;
            int v = x.of(number, what) == 2 ? 1 : 2;
            told[i] = new int[] {number, what, v};
            was[i] = x.mend(number, what, v);
        }
        for (int i = 49; i >= 10; i--) {
            Check.due("told " + i, told[i][2], x.of(told[i][0], told[i][1]));
            Check.due("undo " + i, i - 10, x.undo());
            Check.due("was " + i, was[i], x.of(told[i][0], told[i][1]));
        }
        Check.due("the first are forgotten", Beach.STATE, x.undo());
        for (int i = 10; i < 50; i++) {
            Check.due("was " + i, was[i], x.of(told[i][0], told[i][1]));
            Check.due("redo " + i, 49 - i, x.redo());
            Check.due("told " + i, told[i][2], x.of(told[i][0], told[i][1]));
        }
    }

    private static void deedsAreNoChanges() {
        OpensLikeThat x = Beach.wheels();
        x.person(0, 1);
        x.make(0, 0);
        x.lay(7);
        x.image();
        x.make(0, 1);
        Check.due("none", 0, x.count(3));
        Check.due("no undo", Beach.STATE, x.undo());
        x.mend(0, 4, 4);
        x.undo();
        Check.due("KNOWS as ahead of the change", 3, x.of(0, 4));
        x.back();
        Check.due("KNOWS of the image", 1, x.of(0, 4));
        Check.due("a deed does not end DONE AGAIN", 0, x.redo());
        Check.due("KNOWS as told", 4, x.of(0, 4));
        Check.due("the STATE stays", 7, x.of(0, 8));
    }

    /** 12 MOVES and 6 PEOPLE: the last of each. */
    private static void lastOneLastMove() {
        OpensLikeThat x = Beach.full();
        Check.due("the last one, the last MOVE", 1, x.make(5, 11));
        Check.due("it KNOWS that alone", 2048, x.of(5, 4));
        for (int one = 0; one < 5; one++) {
            Check.due("another does not", 0, x.of(one, 4));
        }
        Check.due("no MOVE 12", Beach.BAD, x.make(5, 12));
        Check.due("no one 6", Beach.BAD, x.make(6, 11));
        Check.due("nobody", Beach.BAD, x.make(-1, 11));
        leds("one MOVE of 4 seconds", x, 1, 4, 0, 0);
        Check.due("the first of each", 19, x.make(0, 0));
        Check.due("it KNOWS that alone", 1, x.of(0, 4));
    }

    /** "a MOVE done LEARNS times by one it KNOWS then", 1 .. 9. */
    private static void doneLearnsTimes() {
        for (int learns = 1; learns <= 9; learns++) {
            OpensLikeThat x = Beach.full();
            x.mend(5, 5, learns);
            for (int i = 1; i <= learns + 1; i++) {
                Check.due("turned", i % 2, x.make(5, 11));
                Check.due("done " + i + " times of " + learns, i >= learns ? 2048 : 0, x.of(5, 4));
                Check.due("4 seconds each, 2 if it KNEW it ahead", 4 * i - 2 * Math.max(0, i - learns), x.led(1));
            }
        }
    }

    /** "CHAIRS come to (that were none ahead)": by MOVES. */
    private static void chairsComeTo() {
        OpensLikeThat x = Beach.wheels();
        x.person(0, 1);
        x.lay(18);
        Check.due("to 36", 36, x.make(0, 0));
        leds("come to", x, 1, 4, 1, 1);
        x.make(0, 2);
        x.make(0, 2);
        x.make(0, 2);
        Check.due("36, 38, 40, 36: CHAIRS all", 1, x.led(2));
        x.make(0, 3);
        Check.due("37 is none", 1, x.led(2));
        x.make(0, 3);
        Check.due("36 again", 2, x.led(2));
        x.make(0, 1);
        x.make(0, 1);
        Check.due("48: none yet", 2, x.led(2));
        x.make(0, 1);
        Check.due("and again", 3, x.led(2));
        x.lay(40);
        x.lay(0);
        x.lay(38);
        Check.due("laid into one is no MOVE", 3, x.led(2));
        x.make(0, 2);
        Check.due("it was one ahead", 3, x.led(2));
        x.move(32, 3);
        x.make(0, 4);
        Check.due("a MOVE that stays", 3, x.led(2));
        leds("all", x, 11, x.led(1), 3, 4);
    }

    /** "its seconds pass": 1 to 99; none by NOT. */
    private static void secondsPass() {
        OpensLikeThat x = Beach.wheels();
        x.person(0, 9);
        int[] law = {1, 99, 100, 9999, 7, 0, -1};
        int[] due = {1, 100, 199, 298, 305, 305, 305};
        for (int i = 0; i < law.length; i++) {
            Beach.law(x, String.valueOf(law[i]));
            Check.due("by " + law[i], law[i] > 0 ? (i + 1) % 2 : Beach.NOT, x.make(0, 3));
            Check.due("seconds", due[i], x.led(1));
            Check.due("MOVES", Math.min(5, i + 1), x.led(0));
        }
        Check.due("the STATE stays", 1, x.of(0, 8));
        // What is asked for the way there is the STATE ahead: FOLD 2 takes 3, FOLD 0 takes 1.
        Beach.law(x, "f+1");
        x.lay(36);
        x.make(0, 0);
        Check.due("from FOLD 2", 308, x.led(1));
        x.make(0, 0);
        Check.due("from FOLD 0", 309, x.led(1));
    }

    /** "STATE: there is none"; AN IMAGE of a new object. */
    private static void imageOfNothing() {
        OpensLikeThat x = new OpensLikeThat();
        Check.due("none", Beach.STATE, x.back());
        Check.due("of nothing", 0, x.image());
        x.lay(9);
        x.move(1, 3);
        x.person(0, 1);
        x.make(0, 0);
        Check.due("back to nothing made", 0, x.back());
        leds("nothing made", x, 0, 0, 0, 0);
        Check.due("it lies shut", 0, x.of(0, 8));
        Check.due("MOVES stay", 1, x.count(0));
        Check.due("PEOPLE stay", 1, x.count(1));
        Check.due("who came since KNOWS nothing", 0, x.of(0, 4));
        Check.due("again", 0, x.back());
    }

    /** "PEOPLE that came since: KNOW nothing": by deed or by mend; what they did is not kept. */
    private static void whoCameSince() {
        OpensLikeThat x = Beach.wheels();
        Beach.people(x, 3);
        x.mend(0, 4, 5);
        x.mend(2, 4, 4095);
        x.image();
        Beach.people(x, 3);
        for (int one = 0; one < 6; one++) {
            x.mend(one, 4, 7 << one);
        }
        x.mend(5, 5, 2);
        x.make(5, 3);
        x.back();
        int[] due = {5, 0, 4095, 0, 0, 0};
        for (int one = 0; one < 6; one++) {
            Check.due("KNOWS of " + one, due[one], x.of(one, 4));
        }
        x.make(5, 3);
        Check.due("done once, not twice", 0, x.of(5, 4));
        x.make(5, 3);
        Check.due("done twice", 8, x.of(5, 4));
        x.image();
        x.mend(5, 4, 0);
        x.back();
        Check.due("now it was there", 8, x.of(5, 4));
    }

    /** "keeps the STATE, KNOWS and how often each was done, what LED tells": and nothing else. */
    private static void imageKeepsAll() {
        OpensLikeThat x = Beach.full();
        x.mend(5, 5, 3);
        x.make(5, 11);
        x.make(5, 11);
        x.make(0, 0);
        x.lay(53);
        Check.due("MOVES made", 3, x.image());
        x.make(5, 11);
        x.lay(18);
        x.make(4, 0);
        x.mend(3, 2, 9);
        x.mend(3, 3, 9);
        x.mend(3, 0, 0);
        Beach.law(x, "5");
        x.feed('1');
        x.keep(0, 7);
        x.act(7, 3, 5);
        leds("since", x, 5, 20, 1, 2);
        int changes = x.count(3);
        Check.due("MOVES made", 3, x.back());
        leds("as it was", x, 3, 12, 0, 1);
        Check.due("STATE", 53, x.of(0, 8));
        Check.due("KNOWS", 0, x.of(5, 4));
        Check.due("KNOWS", 1, x.of(0, 4));
        Check.due("KNOWS", 0, x.of(4, 4));
        Check.due("CHANGES stay", changes, x.count(3));
        Check.due("HARD stays", 9, x.of(3, 2));
        Check.due("DEFT stays", 9, x.of(3, 3));
        Check.due("FROM stays", 0, x.of(3, 0));
        Check.due("THE LAW stays", 5, x.takes(5, 0, 0));
        Check.due("THE TAPE stays", 1, x.count(2));
        Check.due("SHELVES stay", 7, x.taken(0, 7));
        Check.due("THE TRACE stays", 14, x.count(5));
        x.make(5, 11);
        Check.due("done twice and once", 2048, x.of(5, 4));
        Check.due("back as often as one likes", 3, x.back());
        Check.due("STATE", 53, x.of(0, 8));
        x.lay(0);
        x.make(5, 7);
        Check.due("a later image", 4, x.image());
        x.lay(9);
        Check.due("takes the place of the first", 4, x.back());
        Check.due("its STATE", 0, x.of(0, 8));
    }

    /** "40 at most are kept". */
    private static void thirtyNineToFortyOne() {
        for (int n = 38; n <= 42; n++) {
            OpensLikeThat x = new OpensLikeThat();
            x.person(0, 1);
            for (int i = 1; i <= n; i++) {
                x.mend(0, 4, i);
            }
            int kept = Math.min(40, n);
            Check.due("kept of " + n, kept, x.count(3));
            Check.due("undo", kept - 1, x.undo());
            Check.due("redo", 0, x.redo());
            for (int i = 0; i < kept; i++) {
                Check.due("undo of " + n, kept - 1 - i, x.undo());
            }
            Check.due("no more of " + n, Beach.STATE, x.undo());
            Check.due("the number ahead of those kept", n - kept, x.of(0, 4));
            for (int i = 0; i < kept; i++) {
                Check.due("redo of " + n, kept - 1 - i, x.redo());
                Check.due("number", n - kept + i + 1, x.of(0, 4));
            }
            Check.due("no more of " + n, Beach.STATE, x.redo());
        }
    }

    /** "DONE AGAIN (as long as no other came behind)": another takes the place of all that were UNDONE. */
    private static void behindAnUndo() {
        OpensLikeThat x = new OpensLikeThat();
        x.person(0, 1);
        for (int i = 1; i <= 45; i++) {
            x.mend(0, 4, i);
        }
        for (int i = 0; i < 10; i++) {
            x.undo();
        }
        Check.due("30 stand", 30, x.count(3));
        Check.due("the same number is none", 35, x.mend(0, 4, 35));
        Check.due("BAD is none", Beach.BAD, x.mend(0, 4, 4096));
        Check.due("of another number, BAD", Beach.BAD, x.mend(1, 4, 1));
        Check.due("9 more may be done again", 9, x.redo());
        Check.due("another", 36, x.mend(0, 4, 100));
        Check.due("none may be done again", Beach.STATE, x.redo());
        Check.due("32 stand", 32, x.count(3));
        Check.due("undo of the other", 31, x.undo());
        Check.due("as it was", 36, x.of(0, 4));
        Check.due("undo of one ahead", 30, x.undo());
        Check.due("as it was", 35, x.of(0, 4));
        Check.due("again", 1, x.redo());
        Check.due("and the other", 0, x.redo());
        Check.due("as told", 100, x.of(0, 4));
        for (int i = 0; i < 8; i++) {
            x.mend(0, 4, 200 + i);
        }
        Check.due("40 stand", 40, x.count(3));
        x.mend(0, 4, 300);
        Check.due("40 stand, the first is forgotten", 40, x.count(3));
        for (int i = 39; i >= 0; i--) {
            Check.due("undo", i, x.undo());
        }
        Check.due("the first that is kept", 6, x.of(0, 4));
        x.mend(0, 5, 9);
        Check.due("another behind all that were UNDONE", 1, x.count(3));
        Check.due("none may be done again", Beach.STATE, x.redo());
    }

    /** "deeds are none": no deed, and neither AN IMAGE nor what is laid back, is a change or ends what may be done again. */
    private static void deedsBetween() {
        OpensLikeThat x = Beach.wheels();
        Beach.people(x, 1);
        x.mend(0, 2, 5);
        x.mend(0, 4, 8);
        x.mend(0, 3, 9);
        x.undo();
        x.undo();
        x.make(0, 1);
        x.lay(20);
        x.image();
        x.back();
        x.move(1, 3);
        x.person(0, 1);
        Check.due("one stands", 1, x.count(3));
        Check.due("KNOWS by the deed", 2, x.of(0, 4));
        Check.due("done again", 1, x.redo());
        Check.due("KNOWS as told", 8, x.of(0, 4));
        x.make(0, 2);
        Check.due("KNOWS by a deed, too", 12, x.of(0, 4));
        Check.due("undone", 1, x.undo());
        Check.due("KNOWS as ahead of the change", 0, x.of(0, 4));
        Check.due("done again", 1, x.redo());
        Check.due("KNOWS as told, not by the deed", 8, x.of(0, 4));
    }

    /** "all numbers of mend()": undone and done again they count as if they were told. */
    private static void eachNumberUndone() {
        OpensLikeThat x = Beach.full();
        x.mend(11, 0, 1);
        x.mend(11, 1, 2);
        x.mend(11, 2, 9);
        x.mend(5, 3, 9);
        x.mend(5, 4, 2048);
        x.mend(5, 5, 3);
        Check.due("FROM and NEEDS", Beach.NOT, x.leads(11, 0));
        Check.due("HARD, DEFT, KNOWS", 7, x.takes(5, 11, 0));
        for (int i = 0; i < 6; i++) {
            x.undo();
        }
        Check.due("FROM and NEEDS undone", 1, x.leads(11, 0));
        Check.due("HARD, DEFT, KNOWS undone", 4, x.takes(5, 11, 0));
        x.make(5, 11);
        Check.due("LEARNS undone", 2048, x.of(5, 4));
        x.redo();
        Check.due("FROM again", Beach.NOT, x.leads(11, 0));
        Check.due("FROM again", 36, x.leads(11, 37));
        x.redo();
        Check.due("NEEDS again", Beach.NOT, x.leads(11, 1));
        Check.due("NEEDS again", 36, x.leads(11, 37));
        x.redo();
        Check.due("HARD again, it KNOWS it by its deed", 10, x.takes(5, 11, 0));
        x.redo();
        Check.due("DEFT again", 7, x.takes(5, 11, 0));
        Check.due("two more", 1, x.redo());
        Check.due("the last", 0, x.redo());
        Check.due("LEARNS again", 3, x.of(5, 5));
    }
}
