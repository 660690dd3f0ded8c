/** Promises 1 to 6, 9 and 10: a new object, moves, people, where a MOVE leads. LawTest has the law. */
public final class MovesTest {
    public static void main(String[] args) {
        newObject();
        move();
        moves();
        movesEnd();
        movesOfSixty();
        movesNotSo();
        movesTillFull();
        person();
        mend();
        mendTheLast();
        of();
        knownAhead();
        leads();
        takes();
        whichAreChairs();
        lastCall();
        Check.end();
    }

    private static void newObject() {
        OpensLikeThat x = new OpensLikeThat();
        for (int what = 0; what < 6; what++) {
            Check.due("new count(" + what + ")", 0, x.count(what));
        }
        for (int what = 0; what < 4; what++) {
            Check.due("new led(" + what + ")", 0, x.led(what));
        }
        Check.due("it lies shut", 0, x.of(0, 8));
        Check.due("SHUT", 0, x.way(x.of(0, 8), 55, 0));
        Check.due("new trace", Beach.BAD, x.trace(0));
        Check.due("new undo", Beach.STATE, x.undo());
        Check.due("new redo", Beach.STATE, x.redo());
        Check.due("new back", Beach.STATE, x.back());
        for (int shelf = 0; shelf < 6; shelf++) {
            Check.due("new shelf", Beach.BARE, x.put(shelf, 0, 1));
            Check.due("new shelf", Beach.BARE, x.taken(shelf, 0));
        }
    }

    private static void move() {
        for (int wb = -13; wb <= 45; wb++) {
            for (int from = -1; from <= 4; from++) {
                boolean isMove = wb == 1 || wb == 2 || wb == 11 || wb == 12 || wb == 21 || wb == 22 || wb == 31 || wb == 32;
                boolean isFrom = from == 0 || from == 1 || from == 3 || from == 2 && wb < 30;
                OpensLikeThat x = new OpensLikeThat();
                Check.due("move(" + wb + ", " + from + ")", isMove && isFrom ? 0 : Beach.BAD, x.move(wb, from));
                Check.due("count behind move", isMove && isFrom ? 1 : 0, x.count(0));
            }
        }
        OpensLikeThat x = new OpensLikeThat();
        for (int i = 0; i < 12; i++) {
            Check.due("move", i, x.move(i % 2 + 1, i % 4));
        }
        Check.due("a move too many", Beach.FULL, x.move(1, 3));
        Check.due("BAD ahead of FULL", Beach.BAD, x.move(3, 3));
        Check.due("count", 12, x.count(0));
        Check.due("NEEDS at first", 3, x.of(11, 1));
        Check.due("HARD at first", 1, x.of(11, 2));
    }

    /** "by fives WHAT, BY, FROM, NEEDS, HARD: n of them", "from a place on". */
    private static void moves() {
        OpensLikeThat x = new OpensLikeThat();
        Beach.bytes(x, 0, 9, 0, 1, 3, 2, 7, 3, 2, 1, 0, 0, 1, 1, 2, 3, 9, 2, 2);
        Check.due("ends within a five", 3, x.moves(0, 1, 12));
        int[] due = {0, 1, 3, 2, 7, 3, 2, 1, 0, 0, 1, 1, 2, 3, 9};
        int[] what = {6, 7, 0, 1, 2};
        for (int i = 0; i < due.length; i++) {
            Check.due("number " + i % 5 + " of move " + i / 5, due[i], x.of(i / 5, what[i % 5]));
        }
        Check.due("no more than wanted", 1, x.moves(0, 6, 1));
        Check.due("WHAT", 3, x.of(3, 6));
        Check.due("two of three", 2, x.moves(0, 1, 2));
        Check.due("all three", 3, x.moves(0, 1, 3));
        Check.due("three of four", 3, x.moves(0, 1, 4));
        Check.due("count", 12, x.count(0));
        Check.due("the first leads", 2, x.leads(0, 38));
        Check.due("their NEEDS", Beach.NOT, x.leads(0, 20));
    }

    /** "it ends where the row is missing, ends (within a five, too)": BAD, -12 are of the SHELF and n alone. */
    private static void movesEnd() {
        OpensLikeThat x = new OpensLikeThat();
        Check.due("missing row", 0, x.moves(0, 0, 1));
        Check.due("missing row, any place", 0, x.moves(5, Beach.LEAST, 12));
        Check.due("no shelf", Beach.BAD, x.moves(6, 0, 1));
        Check.due("no shelf", Beach.BAD, x.moves(-1, 0, 1));
        Check.due("none wanted", Beach.BAD, x.moves(0, 0, 0));
        Check.due("too many wanted", Beach.BAD, x.moves(0, 0, 13));
        for (int sort = 1; sort < 5; sort++) {
            x.row(1, sort, 10);
            Check.due("no bytes, sort " + sort, Beach.KIND, x.moves(1, 0, 1));
            Check.due("BAD ahead of -12", Beach.BAD, x.moves(1, 0, 13));
        }
        x.body(0);
        x.keep(1, 0);
        Check.due("a FRAME", Beach.KIND, x.moves(1, 0, 1));
        Beach.bytes(x, 2);
        Check.due("an empty row", 0, x.moves(2, 0, 1));
        Beach.bytes(x, 2, 0, 1, 3, 3);
        Check.due("four are no five", 0, x.moves(2, 0, 12));
        Beach.bytes(x, 2, 0, 1, 3, 3, 5);
        for (int place : new int[] {1, 2, 4, 5, 6, 60, Beach.MOST - 4, Beach.MOST, -1, -4, -5, Beach.LEAST}) {
            Check.due("from place " + place, 0, x.moves(2, place, 12));
        }
        Beach.bytes(x, 3, Beach.times(60, 1));
        for (int place : new int[] {56, 57, 59, 60, 61, -1, -2, -3, -4, -5, -60, Beach.LEAST, Beach.MOST}) {
            Check.due("of 60 alike, from place " + place, 0, x.moves(3, place, 1));
        }
        Check.due("none came", 0, x.count(0));
        Check.due("a five up to the end", 1, x.moves(2, 0, 12));
        Check.due("its HARD", 5, x.of(0, 2));
        Beach.bytes(x, 2, 9, 0, 2, 3, 3, 6);
        Check.due("a five up to the end, from place 1", 1, x.moves(2, 1, 12));
        Check.due("its HARD", 6, x.of(1, 2));
    }

    /** A ROW of 60 elements has 12 MOVES. */
    private static void movesOfSixty() {
        int[] row = new int[60];
        for (int i = 0; i < 12; i++) {
            int[] five = {i % 4, i % 2 + 1, 3, i % 4, i % 10};
            System.arraycopy(five, 0, row, 5 * i, 5);
        }
        OpensLikeThat x = new OpensLikeThat();
        Beach.bytes(x, 5, row);
        Check.due("within the last five", 0, x.moves(5, 56, 12));
        Check.due("the last five", 1, x.moves(5, 55, 12));
        Check.due("11 more are all", 11, x.moves(5, 0, 12));
        Check.due("the last is of the row's 11th", 0, x.of(11, 2));
        OpensLikeThat y = new OpensLikeThat();
        Beach.bytes(y, 5, row);
        Check.due("all 12", 12, y.moves(5, 0, 12));
        for (int i = 0; i < 60; i++) {
            Check.due("number " + i, row[i], y.of(i / 5, new int[] {6, 7, 0, 1, 2}[i % 5]));
        }
        Check.due("no more", 0, y.moves(5, 0, 12));
    }

    /** "one is not so": each number of a five, the last that is so and the first that is not. */
    private static void movesNotSo() {
        int[] five = {2, 1, 1, 3, 5};
        int[][] so = {{0, 1, 2, 3}, {1, 2}, {0, 1, 2, 3}, {0, 1, 2, 3}, {0, 1, 8, 9}};
        int[][] notSo = {{-1, 4, 127, -128}, {0, 3, -1, -128}, {-1, 4, 127, -128}, {-1, 4, 127, -128}, {-1, 10, 127, -128}};
        for (int i = 0; i < 5; i++) {
            for (int v : so[i]) {
                comes(five, i, v, 3);
            }
            for (int v : notSo[i]) {
                comes(five, i, v, 1);
            }
        }
        int[] ofSide = {3, 1, 1, 3, 5};
        comes(ofSide, 2, 0, 3);
        comes(ofSide, 2, 2, 1);
        comes(ofSide, 2, 3, 3);
    }

    private static void comes(int[] five, int i, int v, int due) {
        int[] row = {0, 1, 3, 3, 1, 0, 0, 0, 0, 0, 1, 2, 0, 0, 0};
        System.arraycopy(five, 0, row, 5, 5);
        row[5 + i] = v;
        OpensLikeThat x = new OpensLikeThat();
        Beach.bytes(x, 0, row);
        Check.due("those ahead of number " + i + " with " + v, due, x.moves(0, 0, 12));
        Check.due("so many came", due, x.count(0));
        if (due == 3) {
            Check.due("number " + i + " as it was put", v, x.of(1, new int[] {6, 7, 0, 1, 2}[i]));
        }
    }

    /** "or MOVES are FULL: those ahead came". */
    private static void movesTillFull() {
        int[] came = {3, 3, 2, 1, 0};
        int[] lastWhat = {2, 2, 1, 0, 0};
        for (int i = 0; i < 5; i++) {
            OpensLikeThat x = new OpensLikeThat();
            for (int ahead = 0; ahead < 8 + i; ahead++) {
                x.move(1, 3);
            }
            Beach.bytes(x, 0, 0, 1, 3, 3, 1, 1, 1, 3, 3, 1, 2, 1, 3, 3, 1);
            Check.due("till FULL from " + (8 + i), came[i], x.moves(0, 0, 3));
            Check.due("count", 8 + i + came[i], x.count(0));
            Check.due("the last that came", lastWhat[i], x.of(x.count(0) - 1, 6));
        }
    }

    private static void person() {
        OpensLikeThat x = new OpensLikeThat();
        Check.due("person(-1, 1)", Beach.BAD, x.person(-1, 1));
        Check.due("person(10, 1)", Beach.BAD, x.person(10, 1));
        Check.due("person(0, 0)", Beach.BAD, x.person(0, 0));
        Check.due("person(0, 10)", Beach.BAD, x.person(0, 10));
        for (int i = 0; i < 6; i++) {
            Check.due("person", i, x.person(9 - i, i + 1));
        }
        Check.due("one too many", Beach.FULL, x.person(0, 1));
        Check.due("BAD ahead of FULL", Beach.BAD, x.person(0, 0));
        Check.due("DEFT", 4, x.of(5, 3));
        Check.due("KNOWS none at first", 0, x.of(5, 4));
        Check.due("LEARNS", 6, x.of(5, 5));
        Check.due("count", 6, x.count(1));
    }

    private static void mend() {
        OpensLikeThat x = new OpensLikeThat();
        x.move(1, 0);
        x.move(31, 1);
        x.person(4, 2);
        int[] most = {3, 3, 9, 9, 4095, 9};
        int[] least = {0, 0, 0, 0, 0, 1};
        int[] was = {0, 3, 1, 4, 0, 2};
        for (int what = 0; what < 6; what++) {
            Check.due("too small " + what, Beach.BAD, x.mend(0, what, least[what] - 1));
            Check.due("too large " + what, Beach.BAD, x.mend(0, what, most[what] + 1));
            Check.due("as it was " + what, was[what], x.of(0, what));
            Check.due("to the least " + what, was[what], x.mend(0, what, least[what]));
            Check.due("to the most " + what, least[what], x.mend(0, what, most[what]));
            Check.due("as it is " + what, most[what], x.of(0, what));
            Check.due("the same again " + what, most[what], x.mend(0, what, most[what]));
            Check.due("no number " + what, Beach.BAD, x.mend(what < 3 ? 2 : 1, what, 1));
            Check.due("no number " + what, Beach.BAD, x.mend(-1, what, 1));
        }
        Check.due("no such what", Beach.BAD, x.mend(0, 6, 1));
        Check.due("no such what", Beach.BAD, x.mend(0, -1, 1));
        Check.due("no such what", Beach.BAD, x.mend(0, 8, 1));
        Check.due("SIDE from 2", Beach.BAD, x.mend(1, 0, 2));
        Check.due("SIDE from any", 1, x.mend(1, 0, 3));
        Check.due("FOLD from 2", 3, x.mend(0, 0, 2));
        Check.due("FROM counts", 0, x.leads(0, 36));
        x.mend(0, 1, 1);
        Check.due("NEEDS counts", Beach.NOT, x.leads(0, 36));
    }

    /** One of the last MOVES and the last of the PEOPLE; no number beside the one mended becomes another. */
    private static void mendTheLast() {
        int[] v = {2, 0, 9, 9, 2048, 9};
        for (int what = 0; what < 6; what++) {
            OpensLikeThat x = Beach.full();
            int last = what < 3 ? 10 : 5;
            int[] was = numbers(x);
            int at = last * 8 + what;
            Check.due("mend " + what, was[at], x.mend(last, what, v[what]));
            was[at] = v[what];
            int[] now = numbers(x);
            for (int i = 0; i < was.length; i++) {
                Check.due("of(" + i / 8 + ", " + i % 8 + ") behind mend of " + what, was[i], now[i]);
            }
        }
    }

    private static int[] numbers(OpensLikeThat x) {
        int[] all = new int[96];
        for (int i = 0; i < all.length; i++) {
            all[i] = x.of(i / 8, i % 8);
        }
        return all;
    }

    private static void of() {
        OpensLikeThat x = new OpensLikeThat();
        for (int what = 0; what < 8; what++) {
            Check.due("nothing there " + what, Beach.BAD, x.of(0, what));
        }
        x.move(22, 1);
        x.person(7, 3);
        int[] due = {1, 3, 1, 7, 0, 3, 2, 2};
        for (int what = 0; what < 8; what++) {
            Check.due("of(0, " + what + ")", due[what], x.of(0, what));
            Check.due("of(1, " + what + ")", Beach.BAD, x.of(1, what));
            Check.due("of(-1, " + what + ")", Beach.BAD, x.of(-1, what));
        }
        x.lay(17);
        Check.due("of(0, 8)", 17, x.of(0, 8));
        Check.due("of(1, 8)", Beach.BAD, x.of(1, 8));
        Check.due("of(0, 9)", Beach.BAD, x.of(0, 9));
        Check.due("of(0, -1)", Beach.BAD, x.of(0, -1));
    }

    /** "KNOWS (bits of MOVES)": also of those that have not come yet. */
    private static void knownAhead() {
        OpensLikeThat x = new OpensLikeThat();
        x.person(0, 1);
        Check.due("none at first", 0, x.mend(0, 4, 4095));
        for (int i = 0; i < 12; i++) {
            x.move(31, 3);
            Check.due("it KNOWS it as it comes", 2, x.takes(0, i, 0));
        }
        Check.due("all but the last", 4095, x.mend(0, 4, 2047));
        Check.due("the last is not known", 4, x.takes(0, 11, 0));
        Check.due("the one ahead is", 2, x.takes(0, 10, 0));
    }

    /** "how many seconds it takes of one": what the law gives for it is LawTest's. */
    private static void takes() {
        OpensLikeThat x = Beach.full();
        x.mend(5, 3, 9);
        x.mend(11, 2, 9);
        Check.due("nobody", 1, x.takes(-1, 11, 53));
        Check.due("the first one, the first MOVE", 4, x.takes(0, 0, 0));
        Check.due("the first one, the last MOVE", 20, x.takes(0, 11, 53));
        Check.due("the last one, the last MOVE", 17, x.takes(5, 11, 53));
        Check.due("no one", Beach.BAD, x.takes(6, 0, 0));
        Check.due("no one", Beach.BAD, x.takes(-2, 0, 0));
        Check.due("no move", Beach.BAD, x.takes(0, 12, 0));
        Check.due("no move", Beach.BAD, x.takes(-1, -1, 0));
        Check.due("no state", Beach.BAD, x.takes(0, 0, 54));
        Check.due("no state", Beach.BAD, x.takes(-1, 0, -1));
    }

    /** "In a STATE a MOVE MAY be made, if FROM and NEEDS say so": each kind of MOVE, each FROM and NEEDS, each STATE. */
    private static void leads() {
        for (int wb : new int[] {1, 2, 11, 12, 21, 22, 31, 32}) {
            for (int from = 0; from <= 3; from++) {
                for (int needs = 0; needs <= 3 && (from != 2 || wb < 30); needs++) {
                    leadsOf(wb, from, needs);
                }
            }
        }
        OpensLikeThat x = Beach.full();
        Check.due("the last MOVE", 0, x.leads(11, 1));
        Check.due("no move", Beach.BAD, x.leads(12, 0));
        Check.due("no move", Beach.BAD, x.leads(-1, 0));
        Check.due("no state", Beach.BAD, x.leads(0, -1));
        Check.due("no state", Beach.BAD, x.leads(0, 54));
    }

    private static void leadsOf(int wb, int from, int needs) {
        int[] weight = {18, 6, 2, 1};
        int[] round = {3, 3, 3, 2};
        int what = wb / 10;
        OpensLikeThat x = new OpensLikeThat();
        Check.due("move", 0, x.move(wb, from));
        Check.due("NEEDS any at first", 3, x.mend(0, 1, needs));
        for (int s = 0; s < 54; s++) {
            int ahead = s / weight[what] % round[what];
            boolean may = (from == 3 || from == ahead) && (needs == 3 || needs == s / 18);
            int then = (ahead + wb % 10) % round[what];
            int due = may ? s + weight[what] * (then - ahead) : Beach.NOT;
            Check.due(wb + " from " + from + " needs " + needs + " leads in " + s, due, x.leads(0, s));
        }
    }

    /** "SHUT: FOLD 0. A CHAIR: FOLD 2, CLOTH 0, SIDE 0 (any NOTCH)." */
    private static void whichAreChairs() {
        for (int s = 0; s < 54; s++) {
            OpensLikeThat x = new OpensLikeThat();
            boolean isChair = s == 36 || s == 38 || s == 40;
            Check.due("CHAIR: " + s, isChair ? 0 : Beach.NOT, x.way(s, 54, 0));
            Check.due("SHUT: " + s, s <= 17 ? 0 : Beach.NOT, x.way(s, 55, 1));
            Check.due("CHAIRS reached: " + s, isChair ? 1 : 0, x.reach(s, 1));
            Check.due("WITHOUT SHUTTING: " + s, s <= 17 ? 0 : 1, x.reach(s, 2));
            Check.due("a CHAIR drawn: " + s, isChair ? 1 : 0, x.drawn(s, 0, 101, 0));
        }
    }

    /** "An object is used for at most 512 calls": the 512th still counts. */
    private static void lastCall() {
        OpensLikeThat x = new OpensLikeThat();
        x.move(1, 3);
        for (int i = 0; i < 510; i++) {
            Check.due("lay", i == 0 ? 0 : (i - 1) % 54, x.lay(i % 54));
        }
        Check.due("the 512th", 510, x.led(3));
    }
}
