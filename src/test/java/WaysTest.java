/** Promises 11 to 18: ways. */
public final class WaysTest {
    public static void main(String[] args) {
        way();
        next();
        reach();
        worst();
        ways();
        backFrom();
        needed();
        oneWay();
        wrongPs();
        Check.end();
    }

    private static void way() {
        OpensLikeThat x = Beach.wheels();
        x.person(0, 1);
        x.mend(2, 2, 4);
        Check.due("itself", 0, x.way(0, 0, 0));
        Check.due("itself by seconds", 0, x.way(100, 0, 1));
        Check.due("two folds", 2, x.way(0, 36, 0));
        Check.due("round the other way", 1, x.way(36, 0, 0));
        Check.due("all parts", 2 + 2 + 2 + 1, x.way(0, 53, 0));
        Check.due("a CHAIR", 2, x.way(0, 54, 0));
        Check.due("a CHAIR, any NOTCH", 2, x.way(4, 54, 0));
        Check.due("to NOTCH 0", 3, x.way(4, 36, 0));
        Check.due("one that is a CHAIR", 0, x.way(40, 54, 0));
        Check.due("one beside a CHAIR", 1, x.way(41, 54, 0));
        Check.due("a SHUT one", 2, x.way(18, 55, 0));
        Check.due("it is SHUT", 0, x.way(17, 55, 1));
        Check.due("nobody's seconds", 7, x.way(0, 53, 1));
        Check.due("seconds", 2 * 4 + 2 * 4 + 2 * 10 + 4, x.way(100, 53, 1));
        Check.due("MOVES of one", 7, x.way(100, 53, 0));
        x.mend(0, 4, 4);
        Check.due("seconds by one that KNOWS", 2 * 4 + 2 * 4 + 2 * 5 + 4, x.way(100, 53, 1));
        x.move(22, 3);
        Check.due("fewer by 2 on", 6, x.way(0, 53, 0));
        Check.due("seconds: by 2 on", 8 + 8 + 4 + 4, x.way(100, 53, 1));
        Check.due("no such aim", Beach.BAD, x.way(0, 56, 0));
        Check.due("no such aim", Beach.BAD, x.way(0, -1, 0));
        Check.due("no such what", Beach.BAD, x.way(0, 0, 2));
        Check.due("no such what", Beach.BAD, x.way(0, 0, -1));

        OpensLikeThat one = new OpensLikeThat();
        one.move(1, 0);
        one.person(9, 1);
        Check.due("none", Beach.NOT, one.way(0, 36, 0));
        Check.due("none by seconds", Beach.NOT, one.way(100, 54, 1));
        Beach.law(one, "f-1");
        Check.due("0 seconds", Beach.NOT, one.way(100, 18, 0));
        Check.due("nobody is under no law", 1, one.way(0, 18, 0));

        // More MOVES may be fewer seconds: by 2 on is hard.
        OpensLikeThat y = new OpensLikeThat();
        y.move(2, 3);
        y.move(1, 3);
        y.person(0, 1);
        y.mend(0, 2, 9);
        Check.due("fewest MOVES", 1, y.way(100, 36, 0));
        Check.due("fewest seconds", 8, y.way(100, 36, 1));
    }

    private static void next() {
        OpensLikeThat x = Beach.wheels();
        x.move(1, 3);
        Check.due("of like ones the least", 0, x.next(0, 36));
        Check.due("the least that helps", 1, x.next(6, 36) == 0 ? 1 : 0);
        Check.due("a CHAIR", 1, x.next(42, 54));
        Check.due("a CHAIR", 3, x.next(37, 54));
        Check.due("a SHUT one", 0, x.next(37, 55));
        Check.due("it is SHUT", Beach.NOT, x.next(0, 55));
        Check.due("it is a CHAIR", Beach.NOT, x.next(38, 54));
        Check.due("it is there", Beach.NOT, x.next(7, 7));
        Check.due("no such aim", Beach.BAD, x.next(0, 56));
        Check.due("no such aim", Beach.BAD, x.next(0, -1));
        x.person(0, 1);
        x.mend(0, 2, 2);
        Check.due("fewest seconds", 4, x.next(100, 36));
        x.mend(4, 2, 2);
        Check.due("like ones again", 0, x.next(100, 36));
        x.mend(1, 0, 0);
        Check.due("none", Beach.NOT, x.next(42, 36));
        // By 2 on at once, or by 1 on twice: seconds tell, not MOVES.
        OpensLikeThat y = new OpensLikeThat();
        y.move(2, 3);
        y.move(1, 3);
        y.person(0, 1);
        y.mend(0, 2, 9);
        Check.due("nobody's", 0, y.next(0, 36));
        Check.due("one's", 1, y.next(100, 36));
    }

    private static void reach() {
        OpensLikeThat x = new OpensLikeThat();
        Check.due("itself", 1, x.reach(5, 0));
        Check.due("no CHAIR", 0, x.reach(5, 1));
        Check.due("itself a CHAIR", 1, x.reach(40, 1));
        Check.due("itself SHUT", 0, x.reach(5, 2));
        Check.due("itself not SHUT", 1, x.reach(18, 2));
        x.move(21, 3);
        Check.due("NOTCHES", 3, x.reach(36, 0));
        Check.due("CHAIRS", 3, x.reach(36, 1));
        x.move(1, 3);
        Check.due("and FOLDS", 9, x.reach(0, 0));
        Check.due("without SHUTTING", 6, x.reach(18, 2));
        Check.due("behind SHUTTING", 3, x.reach(36, 2));
        Check.due("no such what", Beach.BAD, x.reach(0, 3));
        Check.due("no such what", Beach.BAD, x.reach(0, -1));
        x.person(0, 1);
        Beach.law(x, "m");
        Check.due("one that cannot", 3, x.reach(100, 0));
    }

    private static void worst() {
        OpensLikeThat x = new OpensLikeThat();
        Check.due("CHAIRS alone: the least", 36, x.worst(-1, 0));
        Check.due("CHAIRS alone: 0 MOVES", 0, x.worst(-1, 1));
        Check.due("the others cannot", 51, x.worst(-1, 2));
        x.move(1, 3);
        Check.due("FOLD 0", 0, x.worst(-1, 0));
        Check.due("two MOVES", 2, x.worst(-1, 1));
        Check.due("of 9 it can", 45, x.worst(-1, 2));
        x.move(11, 3);
        x.move(31, 3);
        Check.due("FOLD 0, CLOTH 1, SIDE 1", 7, x.worst(-1, 0));
        Check.due("2, 2, 1", 5, x.worst(-1, 1));
        Check.due("all can", 0, x.worst(-1, 2));
        x.person(0, 1);
        Beach.law(x, "m");
        Check.due("one that cannot fold: CLOTH 1, SIDE 1", 36 + 7, x.worst(0, 0));
        Check.due("one that cannot fold", 3, x.worst(0, 1));
        Check.due("FOLDS 0 and 1 cannot", 36, x.worst(0, 2));
        Check.due("no one", Beach.BAD, x.worst(1, 0));
        Check.due("no one", Beach.BAD, x.worst(-2, 0));
        Check.due("no such what", Beach.BAD, x.worst(0, 3));
        Check.due("no such what", Beach.BAD, x.worst(0, -1));
    }

    private static void ways() {
        OpensLikeThat x = Beach.wheels();
        Check.due("itself", 1, x.ways(9, 9));
        Check.due("one", 1, x.ways(0, 36));
        Check.due("2 and 1 in any order", 3, x.ways(0, 37));
        Check.due("2, 2, 2 and 1 in any order: 7! / 8", 630, x.ways(0, 53));
        x.move(1, 3);
        Check.due("each fold by two MOVES", 4, x.ways(0, 36));
        Check.due("each fold by two MOVES", 2520, x.ways(0, 53));
        x.move(11, 3);
        Check.due("9999 at most", 9999, x.ways(0, 53));
        Check.due("630 / 2 * ... less a SIDE", 90 * 16, x.ways(0, 52));
        x.move(32, 3);
        Check.due("a MOVE that stays is on no fewest way", 4, x.ways(0, 36));
        Check.due("no STATE", Beach.BAD, x.ways(0, 54));
        Check.due("no STATE", Beach.BAD, x.ways(54, 0));
        Check.due("no STATE", Beach.BAD, x.ways(-1, 0));
        Check.due("no STATE", Beach.BAD, x.ways(0, -1));
        OpensLikeThat y = new OpensLikeThat();
        y.move(1, 0);
        Check.due("it cannot", 0, y.ways(0, 36));
        Check.due("it can", 1, y.ways(0, 18));
        Check.due("it cannot come back", 0, y.ways(18, 0));
        for (int i = 0; i < 11; i++) {
            y.move(1, 3);
        }
        Check.due("12 times 11", 132, y.ways(0, 36));
    }

    private static void backFrom() {
        OpensLikeThat x = new OpensLikeThat();
        x.person(0, 1);
        Check.due("itself", 1, x.backFrom(0));
        x.move(1, 0);
        Check.due("no way back", 0, x.backFrom(0));
        Check.due("none to go", 1, x.backFrom(18));
        x.move(1, 1);
        Check.due("no way back from the end", 0, x.backFrom(0));
        x.move(1, 2);
        Check.due("round", 1, x.backFrom(0));
        Check.due("round by one", 1, x.backFrom(100));
        Beach.law(x, "2-m");
        Check.due("one cannot come back", 0, x.backFrom(100));
        Check.due("one cannot leave", 1, x.backFrom(136));
        Check.due("nobody can", 1, x.backFrom(0));
    }

    private static void needed() {
        OpensLikeThat x = new OpensLikeThat();
        x.person(0, 1);
        Check.due("it is one", 0, x.needed(36));
        Check.due("none can be", Beach.NOT, x.needed(0));
        x.move(21, 3);
        x.move(1, 3);
        x.move(31, 3);
        Check.due("the FOLD", 2, x.needed(0));
        Check.due("FOLD and SIDE", 6, x.needed(1));
        x.move(1, 1);
        Check.due("still", 2, x.needed(0));
        Check.due("one of two is not NEEDED", 0, x.needed(18));
        Check.due("CLOTH cannot", Beach.NOT, x.needed(6));
        Beach.law(x, "!(m=1&f=1)");
        Check.due("one cannot by the one", 8, x.needed(118));
        Check.due("by both", 10, x.needed(100));
        Check.due("nobody", 2, x.needed(0));
    }

    private static void oneWay() {
        OpensLikeThat x = new OpensLikeThat();
        Check.due("no MOVES", Beach.NOT, x.oneWay(0));
        Check.due("no MOVES", Beach.NOT, x.oneWay(1));
        Check.due("no such what", Beach.BAD, x.oneWay(2));
        Check.due("no such what", Beach.BAD, x.oneWay(-1));
        x.move(21, 3);
        Check.due("of no use, but there", 0, x.oneWay(0));
        Check.due("CHAIRS are left", 3, x.oneWay(1));
        x.move(31, 3);
        x.move(11, 3);
        Check.due("the CLOTH", 2, x.oneWay(0));
        Check.due("6 STATES of CLOTH 0", 6, x.oneWay(1));
        x.move(1, 3);
        x.move(2, 2);
        Check.due("the CLOTH as the FOLD: the least", 2, x.oneWay(0));
        Check.due("54 by 3", 18, x.oneWay(1));
        x.move(12, 3);
        Check.due("two CLOTHS: the FOLD", 3, x.oneWay(0));
        Check.due("FOLDS 2 alone are left", 18, x.oneWay(1));
        OpensLikeThat y = Beach.wheels();
        int[] again = {1, 11, 21, 31};
        for (int wb : again) {
            y.move(wb, 3);
        }
        Check.due("each MOVE twice: the least", 0, y.oneWay(0));
        Check.due("each MOVE twice: all can", 54, y.oneWay(1));
    }

    private static void wrongPs() {
        int[] wrong = {-1, -100, 54, 99, 154, 300, 700, Integer.MIN_VALUE, Integer.MAX_VALUE};
        for (int ps : wrong) {
            OpensLikeThat x = Beach.wheels();
            x.person(1, 1);
            x.person(1, 1);
            Check.due("way of ps " + ps, Beach.BAD, x.way(ps, 0, 0));
            Check.due("next of ps " + ps, Beach.BAD, x.next(ps, 0));
            Check.due("reach of ps " + ps, Beach.BAD, x.reach(ps, 0));
            Check.due("backFrom of ps " + ps, Beach.BAD, x.backFrom(ps));
            Check.due("needed of ps " + ps, Beach.BAD, x.needed(ps));
            Check.due("show of ps " + ps, Beach.BAD, x.show(ps, 9, 0));
            Check.due("the last that is right", 0, x.way(253, 53, 0));
        }
    }
}
