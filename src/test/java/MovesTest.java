/** Promises 1 to 10: a new object, moves, people, the law. */
public final class MovesTest {
    public static void main(String[] args) {
        newObject();
        move();
        moves();
        person();
        mend();
        of();
        feed();
        lawIsWorkedOut();
        lawHasFaults();
        lawStays();
        leads();
        takes();
        Check.end();
    }

    private static void newObject() {
        OpensLikeThat x = new OpensLikeThat();
        for (int what = 0; what < 6; what++) {
            Check.due("new count(" + what + ")", 0, x.count(what));
        }
        for (int what = 0; what < 4; what++) {
            Check.due("new led(" + what + ")", 0, x.led(what));
        }
        Check.due("new of(0, 8)", 0, x.of(0, 8));
        Check.due("new trace", Beach.BAD, x.trace(0));
        Check.due("new undo", Beach.STATE, x.undo());
        Check.due("new redo", Beach.STATE, x.redo());
        Check.due("new back", Beach.STATE, x.back());
        for (int shelf = 0; shelf < 6; shelf++) {
            Check.due("new shelf", Beach.BARE, x.put(shelf, 0, 1));
        }
    }

    private static void move() {
        for (int wb = -13; wb <= 45; wb++) {
            for (int from = -1; from <= 4; from++) {
                boolean isMove = wb == 1 || wb == 2 || wb == 11 || wb == 12 || wb == 21 || wb == 22 || wb == 31 || wb == 32;
                boolean isFrom = from == 0 || from == 1 || from == 3 || from == 2 && wb < 30;
                OpensLikeThat x = new OpensLikeThat();
                Check.due("move(" + wb + ", " + from + ")", isMove && isFrom ? 0 : Beach.BAD, x.move(wb, from));
                Check.due("count behind move", isMove && isFrom ? 1 : 0, x.count(0));
            }
        }
        OpensLikeThat x = new OpensLikeThat();
        for (int i = 0; i < 12; i++) {
            Check.due("move", i, x.move(i % 2 + 1, i % 4));
        }
        Check.due("a move too many", Beach.FULL, x.move(1, 3));
        Check.due("BAD ahead of FULL", Beach.BAD, x.move(3, 3));
        Check.due("count", 12, x.count(0));
        Check.due("NEEDS at first", 3, x.of(11, 1));
        Check.due("HARD at first", 1, x.of(11, 2));
        Check.due("extreme move", Beach.BAD, x.move(Integer.MIN_VALUE, 3));
        Check.due("extreme move", Beach.BAD, x.move(Integer.MAX_VALUE, 3));
    }

    private static void moves() {
        OpensLikeThat x = new OpensLikeThat();
        Check.due("missing row", 0, x.moves(0, 0, 1));
        Check.due("no shelf", Beach.BAD, x.moves(6, 0, 1));
        Check.due("no shelf", Beach.BAD, x.moves(-1, 0, 1));
        Check.due("none wanted", Beach.BAD, x.moves(0, 0, 0));
        Check.due("too many wanted", Beach.BAD, x.moves(0, 0, 13));
        x.row(1, 1, 10);
        Check.due("shorts", Beach.KIND, x.moves(1, 0, 1));
        Check.due("BAD ahead of -12", Beach.BAD, x.moves(1, 0, 13));
        x.body(0);
        x.keep(1, 0);
        Check.due("a FRAME", Beach.KIND, x.moves(1, 0, 1));

        Beach.bytes(x, 0, 9, 0, 1, 3, 2, 7, 3, 2, 1, 0, 0, 1, 1, 2, 3, 9, 2, 2);
        Check.due("ends within a five", 3, x.moves(0, 1, 12));
        int[] due = {0, 1, 3, 2, 7, 3, 2, 1, 0, 0, 1, 1, 2, 3, 9};
        int[] what = {6, 7, 0, 1, 2};
        for (int i = 0; i < due.length; i++) {
            Check.due("number " + i % 5 + " of move " + i / 5, due[i], x.of(i / 5, what[i % 5]));
        }
        Check.due("no more than wanted", 1, x.moves(0, 6, 1));
        Check.due("WHAT", 3, x.of(3, 6));
        Check.due("at the end", 0, x.moves(0, 18, 1));
        Check.due("behind the end", 0, x.moves(0, Integer.MAX_VALUE, 12));
        Check.due("ahead of the row", 0, x.moves(0, -1, 12));
        Check.due("ahead of the row", 0, x.moves(0, Integer.MIN_VALUE, 12));
        Check.due("ahead of the row by a five", 0, x.moves(0, -4, 12));
        Check.due("count", 4, x.count(0));
        Beach.bytes(x, 2);
        Check.due("an empty row", 0, x.moves(2, 0, 1));
        Beach.bytes(x, 2, 0, 0, 1, 3, 3, 5);
        Check.due("a five up to the end", 1, x.moves(2, 1, 12));
        Check.due("its HARD", 5, x.of(4, 2));

        int[] good = {3, 1, 1, 3, 9};
        int[][] wrong = {{-1, 4}, {0, 3, -1}, {-1, 2, 4}, {-1, 4}, {-1, 10}};
        for (int i = 0; i < 5; i++) {
            for (int w : wrong[i]) {
                int[] row = {0, 1, 3, 3, 1, 3, 1, 1, 3, 9, 0, 1, 3, 3, 1};
                row[5 + i] = w;
                OpensLikeThat y = new OpensLikeThat();
                Beach.bytes(y, 0, row);
                Check.due("not so: " + i + " " + w + " for " + good[i], 1, y.moves(0, 0, 3));
                Check.due("those ahead came", 1, y.count(0));
            }
        }

        OpensLikeThat full = new OpensLikeThat();
        for (int i = 0; i < 10; i++) {
            full.move(1, 3);
        }
        Beach.bytes(full, 0, 0, 1, 3, 3, 1, 1, 1, 3, 3, 1, 2, 1, 3, 3, 1);
        Check.due("till FULL", 2, full.moves(0, 0, 3));
        Check.due("FULL ahead", 0, full.moves(0, 0, 3));
        Check.due("count", 12, full.count(0));
        Check.due("the last that came", 1, full.of(11, 6));
    }

    private static void person() {
        OpensLikeThat x = new OpensLikeThat();
        Check.due("person(-1, 1)", Beach.BAD, x.person(-1, 1));
        Check.due("person(10, 1)", Beach.BAD, x.person(10, 1));
        Check.due("person(0, 0)", Beach.BAD, x.person(0, 0));
        Check.due("person(0, 10)", Beach.BAD, x.person(0, 10));
        for (int i = 0; i < 6; i++) {
            Check.due("person", i, x.person(9 - i, i + 1));
        }
        Check.due("one too many", Beach.FULL, x.person(0, 1));
        Check.due("BAD ahead of FULL", Beach.BAD, x.person(0, 0));
        Check.due("DEFT", 4, x.of(5, 3));
        Check.due("KNOWS none at first", 0, x.of(5, 4));
        Check.due("LEARNS", 6, x.of(5, 5));
        Check.due("count", 6, x.count(1));
    }

    private static void mend() {
        OpensLikeThat x = new OpensLikeThat();
        x.move(1, 0);
        x.move(31, 1);
        x.person(4, 2);
        int[] most = {3, 3, 9, 9, 4095, 9};
        int[] least = {0, 0, 0, 0, 0, 1};
        int[] was = {0, 3, 1, 4, 0, 2};
        for (int what = 0; what < 6; what++) {
            Check.due("too small " + what, Beach.BAD, x.mend(0, what, least[what] - 1));
            Check.due("too large " + what, Beach.BAD, x.mend(0, what, most[what] + 1));
            Check.due("as it was " + what, was[what], x.of(0, what));
            Check.due("to the least " + what, was[what], x.mend(0, what, least[what]));
            Check.due("to the most " + what, least[what], x.mend(0, what, most[what]));
            Check.due("as it is " + what, most[what], x.of(0, what));
            Check.due("the same again " + what, most[what], x.mend(0, what, most[what]));
            Check.due("no number " + what, Beach.BAD, x.mend(what < 3 ? 2 : 1, what, 1));
            Check.due("no number " + what, Beach.BAD, x.mend(-1, what, 1));
        }
        Check.due("no such what", Beach.BAD, x.mend(0, 6, 1));
        Check.due("no such what", Beach.BAD, x.mend(0, -1, 1));
        Check.due("no such what", Beach.BAD, x.mend(0, 8, 1));
        Check.due("SIDE from 2", Beach.BAD, x.mend(1, 0, 2));
        Check.due("SIDE from any", 1, x.mend(1, 0, 3));
        Check.due("FOLD from 2", 3, x.mend(0, 0, 2));
        Check.due("FROM counts", 0, x.leads(0, 36));
        x.mend(0, 1, 1);
        Check.due("NEEDS counts", Beach.NOT, x.leads(0, 36));
    }

    private static void of() {
        OpensLikeThat x = new OpensLikeThat();
        for (int what = 0; what < 8; what++) {
            Check.due("nothing there " + what, Beach.BAD, x.of(0, what));
        }
        x.move(22, 1);
        x.person(7, 3);
        int[] due = {1, 3, 1, 7, 0, 3, 2, 2};
        for (int what = 0; what < 8; what++) {
            Check.due("of(0, " + what + ")", due[what], x.of(0, what));
            Check.due("of(1, " + what + ")", Beach.BAD, x.of(1, what));
            Check.due("of(-1, " + what + ")", Beach.BAD, x.of(-1, what));
        }
        x.lay(17);
        Check.due("of(0, 8)", 17, x.of(0, 8));
        Check.due("of(1, 8)", Beach.BAD, x.of(1, 8));
        Check.due("of(0, 9)", Beach.BAD, x.of(0, 9));
        Check.due("of(0, -1)", Beach.BAD, x.of(0, -1));
    }

    private static void feed() {
        OpensLikeThat x = new OpensLikeThat();
        Check.due("feed(-1)", Beach.BAD, x.feed(-1));
        Check.due("feed(256)", Beach.BAD, x.feed(256));
        for (int i = 1; i <= 120; i++) {
            Check.due("feed", i, x.feed(i * 2));
        }
        Check.due("one too many", Beach.FULL, x.feed(0));
        Check.due("BAD ahead of FULL", Beach.BAD, x.feed(256));
        Check.due("count", 120, x.count(2));
        Check.due("none of it is a text", -100, x.law());
        Check.due("empty then", 0, x.count(2));
        Check.due("feed(0)", 1, x.feed(0));
        Check.due("feed(255)", 2, x.feed(255));
    }

    /** MOVE 5 of one with DEFT 7 that KNOWS it, HARD 4, ahead of STATE 2 * 18 + 2 (FOLD 2, NOTCH 1). */
    private static OpensLikeThat ready() {
        OpensLikeThat x = new OpensLikeThat();
        for (int i = 0; i < 6; i++) {
            x.move(1, 3);
        }
        x.person(7, 1);
        x.mend(5, 2, 4);
        x.mend(0, 4, 32);
        return x;
    }

    private static void gives(String text, int seconds) {
        OpensLikeThat x = ready();
        Check.due("law " + text, 1, Beach.law(x, text));
        Check.due("the tape is empty", 0, x.count(2));
        Check.due("seconds by " + text, seconds, x.takes(0, 5, 38));
    }

    private static void lawIsWorkedOut() {
        gives("d", 7);
        gives("h", 4);
        gives("f", 2);
        gives("n", 1);
        gives("k", 1);
        gives("m", 5);
        gives("0", 0);
        gives("0099", 99);
        gives("100", 99);
        gives("-1", 0);
        gives("9-4-3", 2);
        gives("2+3*4", 14);
        gives("(2+3)*4", 20);
        gives("17/5*2", 6);
        gives("17%5*2", 4);
        gives("50+-7/2", 47);
        gives("50+-7%2", 49);
        gives("50+7/-2", 47);
        gives("50+7%-2", 51);
        gives("9/0", 0);
        gives("9%0", 0);
        gives("3+9/(d-7)", 3);
        gives("!d", 0);
        gives("!!d", 1);
        gives("!(d-7)", 1);
        gives("5--3", 8);
        gives("--3", 3);
        gives("1<2", 1);
        gives("2<1", 0);
        gives("2<2", 0);
        gives("2>1", 1);
        gives("2>2", 0);
        gives("2=2", 1);
        gives("2=3", 0);
        gives("1+1=2", 1);
        gives("((3>2)>1)+7", 7);
        gives("7|0", 1);
        gives("0|0", 0);
        gives("7&9", 1);
        gives("7&0", 0);
        gives("1|0&0", 1);
        gives("(1|0)&0", 0);
        gives("0|0|5", 1);
        gives("1<2&2<3", 1);
        gives("1<2&3<2|0", 0);
        gives("-9999*9999*9999*9999*9999+77", Math.max(0, Math.min(99, -9999 * 9999 * 9999 * 9999 * 9999 + 77)));
        gives("9999*9999*43+60", Math.max(0, Math.min(99, 9999 * 9999 * 43 + 60)));
        gives("f?11;12", 11);
        gives("f-2?11;12", 12);
        gives("f-2?11;0?12", 0);
        gives("f-2?11;-1?12;13", 12);
        gives("0?11;3;4", 3);
        gives("0;3", 0);
        gives("f=2&n=1?d*h-k;5", 27);
        gives("((((((9))))))", 9);
        gives("!-!-!-9", 0);
        gives("(!(-(!9)))+8", 9);
        gives("((((((9))))))+((((((8))))))-!-!-!-7", 17);
        StringBuilder longest = new StringBuilder("1");
        while (longest.length() < 119) {
            longest.append("+1");
        }
        gives(longest.toString(), 60);
        gives(longest.substring(0, 118) + "22", 59 + 22);
        gives(longest.substring(0, 113) + "?21+11", 32);
    }

    private static void fault(String text, int place) {
        OpensLikeThat x = ready();
        Check.due("fault of " + text, -100 - place, Beach.law(x, text));
        Check.due("the tape is empty", 0, x.count(2));
        Check.due("no law came by " + text, 3, x.takes(0, 5, 38));
    }

    private static void lawHasFaults() {
        fault("", 0);
        fault("x", 0);
        fault("D", 0);
        fault(" 1", 0);
        fault("1 ", 1);
        fault("1;", 2);
        fault(";", 0);
        fault("1;;2", 2);
        fault("1?", 2);
        fault("?1", 0);
        fault("1?2?3", 3);
        fault("1?2;3?4?5", 7);
        fault("(1?2)", 2);
        fault("(1;2)", 2);
        fault("12345", 4);
        fault("1d", 1);
        fault("d1", 1);
        fault("dd", 1);
        fault("1<2<3", 3);
        fault("1=2>3", 3);
        fault("1<2&3<4<5", 7);
        fault("1+", 2);
        fault("1+*2", 2);
        fault("1++2", 2);
        fault("+1", 0);
        fault("1!2", 1);
        fault("!", 1);
        fault("-", 1);
        fault("()", 1);
        fault("(1", 2);
        fault("(1))", 3);
        fault(")", 0);
        fault("1||2", 2);
        fault("1&|2", 2);
        fault("(((((((1)))))))", 6);
        fault("!!!!!!!1", 6);
        fault("-------1", 6);
        fault("(!-(!-(1))))", 6);
        fault("(!-(!-!1))", 6);
        fault("1+((((((1+(1)))))))", 10);
        fault("1\u0000", 1);
        fault("1\u00ff", 1);
        fault("h*2.", 3);
    }

    private static void lawStays() {
        OpensLikeThat x = ready();
        Check.due("a law", 1, Beach.law(x, "d*3"));
        Check.due("by it", 21, x.takes(0, 5, 0));
        Check.due("a fault", -102, Beach.law(x, "44!"));
        Check.due("the law ahead stays", 21, x.takes(0, 5, 0));
        Check.due("no text", -100, x.law());
        Check.due("the law ahead stays", 21, x.takes(0, 5, 0));
        Check.due("another", 1, Beach.law(x, "f"));
        Check.due("by the other", 1, x.takes(0, 5, 18));
        Check.due("0: one cannot", 0, x.takes(0, 5, 0));
        Check.due("way: one cannot", Beach.NOT, x.way(100, 18, 0));
        Check.due("nobody can", 1, x.way(0, 18, 0));
    }

    private static void leads() {
        OpensLikeThat x = new OpensLikeThat();
        int[] wb = {1, 2, 11, 12, 21, 22, 31, 32};
        int[] weight = {18, 6, 2, 1};
        int[] round = {3, 3, 3, 2};
        for (int m = 0; m < wb.length; m++) {
            x.move(wb[m], 3);
        }
        for (int m = 0; m < wb.length; m++) {
            for (int from = 0; from <= 3; from++) {
                for (int needs = 0; needs <= 3; needs++) {
                    if (x.mend(m, 0, from) == Beach.BAD) {
                        continue;
                    }
                    x.mend(m, 1, needs);
                    int what = wb[m] / 10;
                    for (int s = 0; s < 54; s++) {
                        int ahead = s / weight[what] % round[what];
                        boolean may = (from == 3 || from == ahead) && (needs == 3 || needs == s / 18);
                        int then = (ahead + wb[m] % 10) % round[what];
                        int due = may ? s + weight[what] * (then - ahead) : Beach.NOT;
                        Check.due("leads(" + m + ", " + s + ")", due, x.leads(m, s));
                    }
                }
            }
        }
        Check.due("no move", Beach.BAD, x.leads(8, 0));
        Check.due("no move", Beach.BAD, x.leads(-1, 0));
        Check.due("no state", Beach.BAD, x.leads(0, -1));
        Check.due("no state", Beach.BAD, x.leads(0, 54));
    }

    private static void takes() {
        OpensLikeThat x = new OpensLikeThat();
        x.move(1, 0);
        x.person(0, 1);
        for (int hard = 0; hard <= 9; hard++) {
            for (int deft = 0; deft <= 9; deft++) {
                for (int k = 0; k < 2; k++) {
                    x.mend(0, 2, hard);
                    x.mend(0, 3, deft);
                    x.mend(0, 4, k);
                    int due = Math.max(1, (1 + hard) * (2 - k) - deft / 3);
                    Check.due("takes by no text", due, x.takes(0, 0, 0));
                    Check.due("takes where it MAY not", due, x.takes(0, 0, 53));
                    Check.due("takes nobody", 1, x.takes(-1, 0, 53));
                }
            }
        }
        Check.due("a law counts for nobody", 1, Beach.law(x, "7"));
        Check.due("nobody", 1, x.takes(-1, 0, 0));
        Check.due("one", 7, x.takes(0, 0, 0));
        Check.due("no one", Beach.BAD, x.takes(1, 0, 0));
        Check.due("no one", Beach.BAD, x.takes(-2, 0, 0));
        Check.due("no move", Beach.BAD, x.takes(0, 1, 0));
        Check.due("no move", Beach.BAD, x.takes(-1, -1, 0));
        Check.due("no state", Beach.BAD, x.takes(0, 0, 54));
        Check.due("no state", Beach.BAD, x.takes(-1, 0, -1));
    }
}
