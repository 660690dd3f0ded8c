/** Promises 30 to 36: the one chair in deed, images, changes undone. */
public final class DeedTest {
    public static void main(String[] args) {
        make();
        makeTeaches();
        eachCountsAlone();
        layAndLed();
        images();
        undoAndRedo();
        fortyChanges();
        mixedChanges();
        deedsAreNoChanges();
        Check.end();
    }

    private static void leds(String when, OpensLikeThat x, int... due) {
        for (int what = 0; what < 4; what++) {
            Check.due(when + ": led(" + what + ")", due[what], x.led(what));
        }
    }

    private static void make() {
        OpensLikeThat x = Beach.wheels();
        Check.due("no one", Beach.BAD, x.make(0, 0));
        x.person(0, 9);
        x.person(9, 9);
        Check.due("nobody", Beach.BAD, x.make(-1, 0));
        Check.due("no move", Beach.BAD, x.make(0, 4));
        Check.due("no move", Beach.BAD, x.make(0, -1));
        Check.due("FOLD", 18, x.make(0, 0));
        leds("one MOVE", x, 1, 4, 0, 0);
        Check.due("FOLD", 36, x.make(1, 0));
        leds("a CHAIR", x, 2, 5, 1, 0);
        Check.due("NOTCH", 38, x.make(1, 2));
        leds("it was one ahead", x, 3, 6, 1, 0);
        Check.due("SIDE", 39, x.make(1, 3));
        Check.due("SIDE", 38, x.make(1, 3));
        leds("a CHAIR again", x, 5, 8, 2, 0);
        x.mend(0, 0, 0);
        Check.due("it MAY not be made", Beach.NOT, x.make(0, 0));
        Beach.law(x, "d");
        Check.due("one cannot", Beach.NOT, x.make(0, 3));
        Check.due("the other can", 39, x.make(1, 3));
        leds("NOT leads to nothing", x, 6, 17, 2, 0);
        Check.due("of(0, 8)", 39, x.of(0, 8));
    }

    private static void makeTeaches() {
        OpensLikeThat x = Beach.wheels();
        x.person(0, 2);
        x.person(0, 1);
        x.make(0, 3);
        Check.due("once", 0, x.of(0, 4));
        Check.due("seconds of a second time", 4, x.takes(0, 3, 0));
        x.make(0, 3);
        Check.due("LEARNS times", 8, x.of(0, 4));
        Check.due("the second time took as the first", 8, x.led(1));
        x.make(0, 3);
        Check.due("the third time one KNOWS it", 10, x.led(1));
        x.make(1, 0);
        Check.due("at once", 1, x.of(1, 4));
        Check.due("each for oneself", 8, x.of(0, 4));
        x.mend(0, 4, 0);
        x.make(0, 3);
        Check.due("LEARNS times and more", 8, x.of(0, 4));
        x.mend(0, 5, 9);
        x.make(0, 1);
        Check.due("not yet", 8, x.of(0, 4));
        x.mend(0, 5, 1);
        Check.due("not by mending", 8, x.of(0, 4));
        x.make(0, 1);
        Check.due("but by a deed", 10, x.of(0, 4));
        x.mend(0, 0, 0);
        x.make(0, 0);
        x.make(0, 0);
        Check.due("NOT teaches nothing", 10, x.of(0, 4));
    }

    /** What one has done is not what another has done, nor another MOVE; an image keeps them all. */
    private static void eachCountsAlone() {
        OpensLikeThat x = new OpensLikeThat();
        for (int m = 0; m < 12; m++) {
            x.move(31, 3);
        }
        for (int one = 0; one < 6; one++) {
            x.person(0, 2);
        }
        for (int one = 0; one < 6; one++) {
            for (int m = 0; m < 12; m++) {
                x.make(one, m);
            }
            Check.due("each MOVE once", 0, x.of(one, 4));
        }
        x.image();
        for (int one = 0; one < 6; one++) {
            for (int m = one; m < 12; m += 2) {
                x.make(one, m);
            }
        }
        Check.due("every other MOVE twice", 0x555, x.of(0, 4));
        Check.due("every other MOVE twice", 0xaa0, x.of(5, 4));
        x.back();
        for (int one = 0; one < 6; one++) {
            Check.due("each MOVE once again", 0, x.of(one, 4));
            x.mend(one, 5, 3);
            x.make(one, 11);
            Check.due("twice of three times", 0, x.of(one, 4));
            x.make(one, 11);
            Check.due("three times", 2048, x.of(one, 4));
        }
    }

    private static void layAndLed() {
        OpensLikeThat x = new OpensLikeThat();
        Check.due("lay(-1)", Beach.BAD, x.lay(-1));
        Check.due("lay(54)", Beach.BAD, x.lay(54));
        Check.due("lay(53)", 0, x.lay(53));
        Check.due("lay(53) again", 53, x.lay(53));
        Check.due("lay(0)", 53, x.lay(0));
        leds("laid", x, 0, 0, 0, 3);
        Check.due("led(-1)", Beach.BAD, x.led(-1));
        Check.due("led(4)", Beach.BAD, x.led(4));
        x.move(31, 3);
        x.person(0, 1);
        x.lay(37);
        x.make(0, 0);
        leds("a MOVE to a CHAIR", x, 1, 4, 1, 4);
    }

    private static void images() {
        OpensLikeThat x = Beach.wheels();
        x.person(0, 2);
        Check.due("none", Beach.STATE, x.back());
        x.make(0, 3);
        x.make(0, 2);
        x.mend(0, 4, 1024);
        x.lay(5);
        Check.due("image", 2, x.image());
        leds("at the image", x, 2, 8, 0, 1);
        x.make(0, 3);
        x.make(0, 2);
        x.make(0, 2);
        x.person(0, 1);
        x.make(1, 0);
        x.lay(9);
        x.mend(0, 3, 6);
        x.mend(0, 5, 3);
        Check.due("what they KNOW", 1024 + 8 + 4, x.of(0, 4));
        Check.due("what they KNOW", 1, x.of(1, 4));
        Check.due("back", 2, x.back());
        leds("back", x, 2, 8, 0, 1);
        Check.due("the STATE", 5, x.of(0, 8));
        Check.due("KNOWS as it was", 1024, x.of(0, 4));
        Check.due("who came since KNOWS nothing", 0, x.of(1, 4));
        Check.due("DEFT is not of the image", 6, x.of(0, 3));
        Check.due("LEARNS is not of the image", 3, x.of(0, 5));
        x.make(0, 2);
        Check.due("done once and again: twice", 1024, x.of(0, 4));
        x.make(0, 2);
        Check.due("done three times", 1024 + 4, x.of(0, 4));
        x.mend(1, 5, 2);
        x.make(1, 0);
        Check.due("who came since has done nothing", 0, x.of(1, 4));
        Check.due("back again", 2, x.back());
        Check.due("the STATE again", 5, x.of(0, 8));
        x.make(0, 3);
        Check.due("a later image", 3, x.image());
        x.make(0, 3);
        x.lay(0);
        Check.due("back to the later", 3, x.back());
        Check.due("its STATE", 4, x.of(0, 8));
    }

    private static void undoAndRedo() {
        OpensLikeThat x = new OpensLikeThat();
        x.move(1, 3);
        x.person(4, 2);
        Check.due("none", Beach.STATE, x.undo());
        int[] v = {1, 2, 5, 8, 77, 6};
        int[] was = {3, 3, 1, 4, 0, 2};
        for (int what = 0; what < 6; what++) {
            x.mend(0, what, v[what]);
            x.mend(0, what, v[what]);
            Check.due("the same number is none", what + 1, x.count(3));
        }
        Check.due("nothing to do again", Beach.STATE, x.redo());
        for (int what = 5; what >= 0; what--) {
            Check.due("as told " + what, v[what], x.of(0, what));
            Check.due("undo", what, x.undo());
            Check.due("count", what, x.count(3));
            Check.due("as it was " + what, was[what], x.of(0, what));
        }
        Check.due("no more", Beach.STATE, x.undo());
        for (int what = 0; what < 6; what++) {
            Check.due("redo", 5 - what, x.redo());
            Check.due("as told again " + what, v[what], x.of(0, what));
        }
        Check.due("no more", Beach.STATE, x.redo());
        x.undo();
        x.undo();
        x.undo();
        x.mend(0, 2, 5);
        Check.due("the same number is none: redo stays", 2, x.redo());
        x.mend(0, 2, 9);
        Check.due("another came behind", Beach.STATE, x.redo());
        Check.due("undo of that", 4, x.undo());
        Check.due("as it was", 5, x.of(0, 2));
        Check.due("a BAD one is none", Beach.BAD, x.mend(0, 2, 10));
        Check.due("redo of that", 0, x.redo());
        x.undo();
        x.undo();
        x.undo();
        x.undo();
        x.undo();
        Check.due("FROM leads again", 36 - 18, x.leads(0, 0));
        x.redo();
        Check.due("FROM 1", Beach.NOT, x.leads(0, 0));
        Check.due("FROM 1", 36, x.leads(0, 18));
        x.redo();
        Check.due("NEEDS 2", Beach.NOT, x.leads(0, 18));
    }

    private static void fortyChanges() {
        OpensLikeThat x = new OpensLikeThat();
        x.person(0, 1);
        for (int i = 1; i <= 45; i++) {
            Check.due("mend", i - 1, x.mend(0, 4, i));
            Check.due("40 at most", Math.min(40, i), x.count(3));
        }
        for (int i = 39; i >= 0; i--) {
            Check.due("undo", i, x.undo());
            Check.due("KNOWS", i + 5, x.of(0, 4));
        }
        Check.due("no more", Beach.STATE, x.undo());
        Check.due("as far as they are kept", 5, x.of(0, 4));
        for (int i = 39; i >= 0; i--) {
            Check.due("redo", i, x.redo());
        }
        Check.due("all again", 45, x.of(0, 4));
    }

    /** Changes of many numbers, so many that the first are forgotten, back and on again. */
    private static void mixedChanges() {
        OpensLikeThat x = new OpensLikeThat();
        for (int i = 0; i < 6; i++) {
            x.move(1, 3);
            x.person(0, 1);
        }
        int[][] told = new int[50][];
        int[] was = new int[50];
        for (int i = 0; i < 50; i++) {
            int what = i * 7 % 6;
            int number = i * 5 % 6;
            int v = x.of(number, what) == 2 ? 1 : 2;
            told[i] = new int[] {number, what, v};
            was[i] = x.mend(number, what, v);
        }
        for (int i = 49; i >= 10; i--) {
            Check.due("told " + i, told[i][2], x.of(told[i][0], told[i][1]));
            Check.due("undo " + i, i - 10, x.undo());
            Check.due("was " + i, was[i], x.of(told[i][0], told[i][1]));
        }
        Check.due("the first are forgotten", Beach.STATE, x.undo());
        for (int i = 10; i < 50; i++) {
            Check.due("was " + i, was[i], x.of(told[i][0], told[i][1]));
            Check.due("redo " + i, 49 - i, x.redo());
            Check.due("told " + i, told[i][2], x.of(told[i][0], told[i][1]));
        }
    }

    private static void deedsAreNoChanges() {
        OpensLikeThat x = Beach.wheels();
        x.person(0, 1);
        x.make(0, 0);
        x.lay(7);
        x.image();
        x.make(0, 1);
        Check.due("none", 0, x.count(3));
        Check.due("no undo", Beach.STATE, x.undo());
        x.mend(0, 4, 4);
        x.undo();
        Check.due("KNOWS as ahead of the change", 3, x.of(0, 4));
        x.back();
        Check.due("KNOWS of the image", 1, x.of(0, 4));
        Check.due("a deed does not end DONE AGAIN", 0, x.redo());
        Check.due("KNOWS as told", 4, x.of(0, 4));
        Check.due("the STATE stays", 7, x.of(0, 8));
    }
}
