/** Promises 11 to 18: ways. */
public final class WaysTest {
    public static void main(String[] args) {
        way();
        next();
        reach();
        worst();
        ways();
        backFrom();
        needed();
        oneWay();
        noMoves();
        theTwelfth();
        theSixth();
        secondsOfAWay();
        nextOfLikeOnes();
        withoutShutting();
        worstOfLikeOnes();
        nearlyTenThousand();
        oneStateOfMany();
        eachIsNeeded();
        Check.end();
    }

    private static void way() {
        OpensLikeThat x = Beach.wheels();
        x.person(0, 1);
        x.mend(2, 2, 4);
        Check.due("itself", 0, x.way(0, 0, 0));
        Check.due("itself by seconds", 0, x.way(100, 0, 1));
        Check.due("two folds", 2, x.way(0, 36, 0));
        Check.due("round the other way", 1, x.way(36, 0, 0));
        Check.due("all parts", 2 + 2 + 2 + 1, x.way(0, 53, 0));
        Check.due("a CHAIR", 2, x.way(0, 54, 0));
        Check.due("a CHAIR, any NOTCH", 2, x.way(4, 54, 0));
        Check.due("to NOTCH 0", 3, x.way(4, 36, 0));
        Check.due("one that is a CHAIR", 0, x.way(40, 54, 0));
        Check.due("one beside a CHAIR", 1, x.way(41, 54, 0));
        Check.due("a SHUT one", 2, x.way(18, 55, 0));
        Check.due("it is SHUT", 0, x.way(17, 55, 1));
        Check.due("nobody's seconds", 7, x.way(0, 53, 1));
        Check.due("seconds", 2 * 4 + 2 * 4 + 2 * 10 + 4, x.way(100, 53, 1));
        Check.due("MOVES of one", 7, x.way(100, 53, 0));
        x.mend(0, 4, 4);
        Check.due("seconds by one that KNOWS", 2 * 4 + 2 * 4 + 2 * 5 + 4, x.way(100, 53, 1));
        x.move(22, 3);
        Check.due("fewer by 2 on", 6, x.way(0, 53, 0));
        Check.due("seconds: by 2 on", 8 + 8 + 4 + 4, x.way(100, 53, 1));
        Check.due("no such aim", Beach.BAD, x.way(0, 56, 0));
        Check.due("no such aim", Beach.BAD, x.way(0, -1, 0));
        Check.due("no such what", Beach.BAD, x.way(0, 0, 2));
        Check.due("no such what", Beach.BAD, x.way(0, 0, -1));

        OpensLikeThat one = new OpensLikeThat();
        one.move(1, 0);
        one.person(9, 1);
        Check.due("none", Beach.NOT, one.way(0, 36, 0));
        Check.due("none by seconds", Beach.NOT, one.way(100, 54, 1));
        Beach.law(one, "f-1");
        Check.due("0 seconds", Beach.NOT, one.way(100, 18, 0));
        Check.due("nobody is under no law", 1, one.way(0, 18, 0));

        // More MOVES may be fewer seconds: by 2 on is hard.
        OpensLikeThat y = new OpensLikeThat();
        y.move(2, 3);
        y.move(1, 3);
        y.person(0, 1);
        y.mend(0, 2, 9);
        Check.due("fewest MOVES", 1, y.way(100, 36, 0));
        Check.due("fewest seconds", 8, y.way(100, 36, 1));
    }

    private static void next() {
        OpensLikeThat x = Beach.wheels();
        x.move(1, 3);
        Check.due("of like ones the least", 0, x.next(0, 36));
        Check.due("the least that helps", 1, x.next(6, 36) == 0 ? 1 : 0);
        Check.due("a CHAIR", 1, x.next(42, 54));
        Check.due("a CHAIR", 3, x.next(37, 54));
        Check.due("a SHUT one", 0, x.next(37, 55));
        Check.due("it is SHUT", Beach.NOT, x.next(0, 55));
        Check.due("it is a CHAIR", Beach.NOT, x.next(38, 54));
        Check.due("it is there", Beach.NOT, x.next(7, 7));
        Check.due("no such aim", Beach.BAD, x.next(0, 56));
        Check.due("no such aim", Beach.BAD, x.next(0, -1));
        x.person(0, 1);
        x.mend(0, 2, 2);
        Check.due("fewest seconds", 4, x.next(100, 36));
        x.mend(4, 2, 2);
        Check.due("like ones again", 0, x.next(100, 36));
        x.mend(1, 0, 0);
        Check.due("none", Beach.NOT, x.next(42, 36));
        // By 2 on at once, or by 1 on twice: seconds tell, not MOVES.
        OpensLikeThat y = new OpensLikeThat();
        y.move(2, 3);
        y.move(1, 3);
        y.person(0, 1);
        y.mend(0, 2, 9);
        Check.due("nobody's", 0, y.next(0, 36));
        Check.due("one's", 1, y.next(100, 36));
    }

    private static void reach() {
        OpensLikeThat x = new OpensLikeThat();
        Check.due("itself", 1, x.reach(5, 0));
        Check.due("no CHAIR", 0, x.reach(5, 1));
        Check.due("itself a CHAIR", 1, x.reach(40, 1));
        Check.due("itself SHUT", 0, x.reach(5, 2));
        Check.due("itself not SHUT", 1, x.reach(18, 2));
        x.move(21, 3);
        Check.due("NOTCHES", 3, x.reach(36, 0));
        Check.due("CHAIRS", 3, x.reach(36, 1));
        x.move(1, 3);
        Check.due("and FOLDS", 9, x.reach(0, 0));
        Check.due("without SHUTTING", 6, x.reach(18, 2));
        Check.due("behind SHUTTING", 3, x.reach(36, 2));
        Check.due("no such what", Beach.BAD, x.reach(0, 3));
        Check.due("no such what", Beach.BAD, x.reach(0, -1));
        x.person(0, 1);
        Beach.law(x, "m");
        Check.due("one that cannot", 3, x.reach(100, 0));
    }

    private static void worst() {
        OpensLikeThat x = new OpensLikeThat();
        Check.due("CHAIRS alone: the least", 36, x.worst(-1, 0));
        Check.due("CHAIRS alone: 0 MOVES", 0, x.worst(-1, 1));
        Check.due("the others cannot", 51, x.worst(-1, 2));
        x.move(1, 3);
        Check.due("FOLD 0", 0, x.worst(-1, 0));
        Check.due("two MOVES", 2, x.worst(-1, 1));
        Check.due("of 9 it can", 45, x.worst(-1, 2));
        x.move(11, 3);
        x.move(31, 3);
        Check.due("FOLD 0, CLOTH 1, SIDE 1", 7, x.worst(-1, 0));
        Check.due("2, 2, 1", 5, x.worst(-1, 1));
        Check.due("all can", 0, x.worst(-1, 2));
        x.person(0, 1);
        Beach.law(x, "m");
        Check.due("one that cannot fold: CLOTH 1, SIDE 1", 36 + 7, x.worst(0, 0));
        Check.due("one that cannot fold", 3, x.worst(0, 1));
        Check.due("FOLDS 0 and 1 cannot", 36, x.worst(0, 2));
        Check.due("no one", Beach.BAD, x.worst(1, 0));
        Check.due("no one", Beach.BAD, x.worst(-2, 0));
        Check.due("no such what", Beach.BAD, x.worst(0, 3));
        Check.due("no such what", Beach.BAD, x.worst(0, -1));
    }

    private static void ways() {
        OpensLikeThat x = Beach.wheels();
        Check.due("itself", 1, x.ways(9, 9));
        Check.due("one", 1, x.ways(0, 36));
        Check.due("2 and 1 in any order", 3, x.ways(0, 37));
        Check.due("2, 2, 2 and 1 in any order: 7! / 8", 630, x.ways(0, 53));
        x.move(1, 3);
        Check.due("each fold by two MOVES", 4, x.ways(0, 36));
        Check.due("each fold by two MOVES", 2520, x.ways(0, 53));
        x.move(11, 3);
        Check.due("9999 at most", 9999, x.ways(0, 53));
        Check.due("630 / 2 * ... less a SIDE", 90 * 16, x.ways(0, 52));
        x.move(32, 3);
        Check.due("a MOVE that stays is on no fewest way", 4, x.ways(0, 36));
        Check.due("no STATE", Beach.BAD, x.ways(0, 54));
        Check.due("no STATE", Beach.BAD, x.ways(54, 0));
        Check.due("no STATE", Beach.BAD, x.ways(-1, 0));
        Check.due("no STATE", Beach.BAD, x.ways(0, -1));
        OpensLikeThat y = new OpensLikeThat();
        y.move(1, 0);
        Check.due("it cannot", 0, y.ways(0, 36));
        Check.due("it can", 1, y.ways(0, 18));
        Check.due("it cannot come back", 0, y.ways(18, 0));
        for (int i = 0; i < 11; i++) {
            y.move(1, 3);
        }
        Check.due("12 times 11", 132, y.ways(0, 36));
    }

    private static void backFrom() {
        OpensLikeThat x = new OpensLikeThat();
        x.person(0, 1);
        Check.due("itself", 1, x.backFrom(0));
        x.move(1, 0);
        Check.due("no way back", 0, x.backFrom(0));
        Check.due("none to go", 1, x.backFrom(18));
        x.move(1, 1);
        Check.due("no way back from the end", 0, x.backFrom(0));
        x.move(1, 2);
        Check.due("round", 1, x.backFrom(0));
        Check.due("round by one", 1, x.backFrom(100));
        Beach.law(x, "2-m");
        Check.due("one cannot come back", 0, x.backFrom(100));
        Check.due("one cannot leave", 1, x.backFrom(136));
        Check.due("nobody can", 1, x.backFrom(0));
    }

    private static void needed() {
        OpensLikeThat x = new OpensLikeThat();
        x.person(0, 1);
        Check.due("it is one", 0, x.needed(36));
        Check.due("none can be", Beach.NOT, x.needed(0));
        x.move(21, 3);
        x.move(1, 3);
        x.move(31, 3);
        Check.due("the FOLD", 2, x.needed(0));
        Check.due("FOLD and SIDE", 6, x.needed(1));
        x.move(1, 1);
        Check.due("still", 2, x.needed(0));
        Check.due("one of two is not NEEDED", 0, x.needed(18));
        Check.due("CLOTH cannot", Beach.NOT, x.needed(6));
        Beach.law(x, "!(m=1&f=1)");
        Check.due("one cannot by the one", 8, x.needed(118));
        Check.due("by both", 10, x.needed(100));
        Check.due("nobody", 2, x.needed(0));
    }

    private static void oneWay() {
        OpensLikeThat x = new OpensLikeThat();
        Check.due("no MOVES", Beach.NOT, x.oneWay(0));
        Check.due("no MOVES", Beach.NOT, x.oneWay(1));
        Check.due("no such what", Beach.BAD, x.oneWay(2));
        Check.due("no such what", Beach.BAD, x.oneWay(-1));
        x.move(21, 3);
        Check.due("of no use, but there", 0, x.oneWay(0));
        Check.due("CHAIRS are left", 3, x.oneWay(1));
        x.move(31, 3);
        x.move(11, 3);
        Check.due("the CLOTH", 2, x.oneWay(0));
        Check.due("6 STATES of CLOTH 0", 6, x.oneWay(1));
        x.move(1, 3);
        x.move(2, 2);
        Check.due("the CLOTH as the FOLD: the least", 2, x.oneWay(0));
        Check.due("54 by 3", 18, x.oneWay(1));
        x.move(12, 3);
        Check.due("two CLOTHS: the FOLD", 3, x.oneWay(0));
        Check.due("FOLDS 2 alone are left", 18, x.oneWay(1));
        OpensLikeThat y = Beach.wheels();
        int[] again = {1, 11, 21, 31};
        for (int wb : again) {
            y.move(wb, 3);
        }
        Check.due("each MOVE twice: the least", 0, y.oneWay(0));
        Check.due("each MOVE twice: all can", 54, y.oneWay(1));
    }

    /** "NOT: there, or none"; "itself, too"; "NOT: no MOVES". */
    private static void noMoves() {
        for (int s = 0; s < 54; s++) {
            OpensLikeThat x = new OpensLikeThat();
            int other = (s + 1) % 54;
            boolean isChair = s == 36 || s == 38 || s == 40;
            for (int what = 0; what < 2; what++) {
                Check.due("way to itself", 0, x.way(s, s, what));
                Check.due("way to another", Beach.NOT, x.way(s, other, what));
                Check.due("way to a CHAIR", isChair ? 0 : Beach.NOT, x.way(s, 54, what));
                Check.due("way to a SHUT one", s < 18 ? 0 : Beach.NOT, x.way(s, 55, what));
            }
            Check.due("next to itself", Beach.NOT, x.next(s, s));
            Check.due("next to another", Beach.NOT, x.next(s, other));
            Check.due("reach", 1, x.reach(s, 0));
            Check.due("ways to itself", 1, x.ways(s, s));
            Check.due("ways to another", 0, x.ways(s, other));
            Check.due("backFrom", 1, x.backFrom(s));
            Check.due("needed", isChair ? 0 : Beach.NOT, x.needed(s));
        }
        OpensLikeThat x = new OpensLikeThat();
        Check.due("worst: the least CHAIR", 36, x.worst(-1, 0));
        Check.due("worst: no MOVES to it", 0, x.worst(-1, 1));
        Check.due("worst: the others cannot", 51, x.worst(-1, 2));
        Check.due("oneWay", Beach.NOT, x.oneWay(0));
        Check.due("oneWay", Beach.NOT, x.oneWay(1));
    }

    /** 12 MOVES, of which the 12th alone leads anywhere. */
    private static void theTwelfth() {
        OpensLikeThat x = new OpensLikeThat();
        for (int i = 0; i < 11; i++) {
            x.move(32, 3);
        }
        x.move(2, 3);
        Check.due("way", 1, x.way(0, 36, 0));
        Check.due("way by seconds", 2, x.way(36, 0, 1));
        Check.due("next", 11, x.next(0, 54));
        Check.due("reach", 3, x.reach(0, 0));
        Check.due("worst: FOLD 1 is two MOVES away", 18, x.worst(-1, 0));
        Check.due("ways", 1, x.ways(0, 36));
        Check.due("backFrom", 1, x.backFrom(0));
        Check.due("needed", 2048, x.needed(0));
        Check.due("oneWay", 11, x.oneWay(0));
        Check.due("oneWay leaves CHAIRS", 3, x.oneWay(1));
        OpensLikeThat y = Beach.twelveThatStay();
        Check.due("12 that stay: way", Beach.NOT, y.way(0, 1, 0));
        Check.due("12 that stay: reach", 1, y.reach(0, 0));
        Check.due("12 that stay: ways to itself", 1, y.ways(0, 0));
        Check.due("12 that stay: of like ones the least", 0, y.oneWay(0));
    }

    /** 6 PEOPLE, of whom each can fold one thing more than the one ahead. */
    private static void theSixth() {
        OpensLikeThat x = Beach.wheels();
        for (int i = 0; i < 6; i++) {
            x.person(i, 1);
        }
        Beach.law(x, "d>m");
        int[] reached = {1, 3, 9, 27, 54, 54};
        int[] cannot = {51, 45, 27, 27, 0, 0};
        for (int one = 0; one < 6; one++) {
            int ps = 100 * one + 100;
            Check.due("reach of " + one, reached[one], x.reach(ps, 0));
            Check.due("worst of " + one, cannot[one], x.worst(one, 2));
            Check.due("way of " + one, one >= 1 ? 2 : Beach.NOT, x.way(ps, 36, 1));
            Check.due("way over CLOTH of " + one, one >= 2 ? 3 : Beach.NOT, x.way(ps + 12, 54, 0));
            Check.due("next of " + one, one >= 4 ? 3 : Beach.NOT, x.next(ps + 1, 0));
            Check.due("needed of " + one, one >= 1 ? 1 : Beach.NOT, x.needed(ps));
            Check.due("needed over SIDE of " + one, one >= 4 ? 9 : Beach.NOT, x.needed(ps + 1));
        }
        Check.due("nobody can all", 54, x.reach(0, 0));
        Check.due("WAYS are nobody's", 630, x.ways(0, 53));
        Check.due("ONE WAY is nobody's", 0, x.oneWay(0));
        Check.due("54 by 3, FOLD 2 alone", 18, x.oneWay(1));
        Beach.law(x, "0");
        Check.due("WAYS, though none can", 630, x.ways(0, 53));
        Check.due("ONE WAY, though none can", 18, x.oneWay(1));
        Check.due("nobody comes back", 1, x.backFrom(0));
        Check.due("one that cannot leave does, too", 1, x.backFrom(600));
    }

    /** "each MOVE takes 1" for nobody; "that take more than 0"; 99 are the most. */
    private static void secondsOfAWay() {
        OpensLikeThat x = Beach.wheels();
        x.person(0, 1);
        int[] law = {-1, 0, 1, 98, 99, 100, 9999};
        int[] due = {0, 0, 1, 98, 99, 99, 99};
        for (int i = 0; i < law.length; i++) {
            Beach.law(x, String.valueOf(law[i]));
            Check.due("seven MOVES by " + law[i], due[i] == 0 ? Beach.NOT : 7 * due[i], x.way(100, 53, 1));
            Check.due("how many by " + law[i], due[i] == 0 ? Beach.NOT : 7, x.way(100, 53, 0));
            Check.due("to a SHUT one by " + law[i], due[i] == 0 ? Beach.NOT : 2 * due[i], x.way(118, 55, 1));
            Check.due("nobody's by " + law[i], 7, x.way(0, 53, 1));
        }
        // MOVE 0 takes 99, MOVE 4 (FOLD by 2) 50: one of them is 99, two of the other 100.
        x.move(2, 3);
        Beach.law(x, "m=0?99;50");
        Check.due("99 is less than two times 50", 99, x.way(100, 18, 1));
        Check.due("50 is less than two times 99", 50, x.way(100, 36, 1));
        Check.due("its NEXT", 4, x.next(100, 36));
        Beach.law(x, "m=0?99;49");
        Check.due("two times 49 is less than 99", 98, x.way(100, 18, 1));
        Check.due("but two MOVES", 1, x.way(100, 18, 0));
        Check.due("NEXT goes by seconds", 4, x.next(100, 18));
        // Seconds hang on FOLD and NOTCH of the STATE ahead: shut it is slow to turn the NOTCH.
        Beach.law(x, "(m=2)*(3-f)*9+n+1");
        Check.due("fold first, then the NOTCH", 1 + 10, x.way(100, 38, 1));
        Check.due("NEXT folds", 4, x.next(100, 38));
        Check.due("fold, then the NOTCH round", 3 + 12, x.way(122, 36, 1));
        Check.due("NEXT folds by 1", 0, x.next(122, 36));
    }

    /** "of like ones the least". */
    private static void nextOfLikeOnes() {
        for (int first = 0; first < 12; first++) {
            OpensLikeThat x = new OpensLikeThat();
            for (int i = 0; i < 12; i++) {
                x.move(i < first ? 32 : 1, 3);
            }
            Check.due("the first that folds", first, x.next(0, 54));
            Check.due("the first that folds, to a SHUT one", first, x.next(36, 55));
            Check.due("the first that folds, to a STATE", first, x.next(18, 36));
        }
        OpensLikeThat y = new OpensLikeThat();
        y.move(31, 3);
        y.move(11, 3);
        y.move(1, 3);
        Check.due("SIDE or FOLD: the least", 0, y.next(19, 54));
        Check.due("SIDE or FOLD: the least, though CLOTH comes between", 0, y.next(1, 36));
        Check.due("CLOTH or FOLD: the least", 1, y.next(30, 54));
    }

    /** "if no STATE on the way (and none reached) is SHUT (0: it is itself)". */
    private static void withoutShutting() {
        OpensLikeThat x = Beach.wheels();
        for (int s = 0; s < 54; s++) {
            Check.due("reach " + s, s < 18 ? 0 : s < 36 ? 36 : 18, x.reach(s, 2));
        }
        OpensLikeThat y = new OpensLikeThat();
        y.move(1, 2);
        y.move(1, 0);
        Check.due("with SHUTTING", 3, y.reach(36, 0));
        Check.due("FOLD 1 is behind a SHUT one", 1, y.reach(36, 2));
        Check.due("from a SHUT one", 2, y.reach(0, 0));
        Check.due("it is SHUT", 0, y.reach(0, 2));
        Check.due("none to go", 1, y.reach(18, 2));
        y.move(2, 2);
        Check.due("past the SHUT one", 2, y.reach(36, 2));
    }

    /** "of those from which it can be; of like ones the least". */
    private static void worstOfLikeOnes() {
        OpensLikeThat x = new OpensLikeThat();
        x.move(2, 0);
        Check.due("FOLD 0, any NOTCH: the least", 0, x.worst(-1, 0));
        Check.due("one MOVE", 1, x.worst(-1, 1));
        Check.due("6 can", 48, x.worst(-1, 2));
        x.mend(0, 0, 1);
        Check.due("FOLD 1 goes to 0, which is no CHAIR", 36, x.worst(-1, 0));
        Check.due("no MOVES", 0, x.worst(-1, 1));
        x.move(31, 1);
        Check.due("SIDE 1 alone", 37, x.worst(-1, 0));
        Check.due("6 can", 48, x.worst(-1, 2));
        x.move(21, 2);
        Check.due("the NOTCH is of no use", 37, x.worst(-1, 0));
        // SIDE is turned at NOTCH 0 alone: so the last of all STATES is the one farthest away.
        OpensLikeThat y = new OpensLikeThat();
        y.move(31, 3);
        y.move(12, 3);
        y.move(22, 3);
        y.person(0, 1);
        Beach.law(y, "m=0?n=0;1");
        Check.due("the last STATE", 53, y.worst(0, 0));
        Check.due("CLOTH and NOTCH twice, SIDE", 5, y.worst(0, 1));
        Check.due("FOLD 0 and 1 cannot", 36, y.worst(0, 2));
        x.person(0, 1);
        Beach.law(x, "0");
        Check.due("one that can nothing", 36, x.worst(0, 0));
        Check.due("one that can nothing", 0, x.worst(0, 1));
        Check.due("one that can nothing", 51, x.worst(0, 2));
    }

    /** "at most 9999 are counted: then 9999"; four beaches found by search. */
    private static void nearlyTenThousand() {
        waysOf(9998, 13, 28, 0,1,2,3, 3,1,0,3, 2,1,3,0, 3,1,3,3, 2,1,0,1, 1,1,2,3, 3,1,3,3, 1,1,3,2, 0,1,3,3, 3,1,1,0, 2,2,2,3, 2,1,3,3);
        waysOf(9999, 39, 12, 1,1,0,2, 1,1,2,0, 3,1,1,3, 2,1,3,3, 2,1,3,3, 1,1,3,3, 0,2,3,3, 0,1,1,3, 3,1,3,2, 2,2,0,3, 2,1,3,2, 3,1,1,2);
        waysOf(9999, 40, 13, 0,1,1,3, 0,1,2,2, 1,2,3,1, 2,1,2,0, 3,1,0,0, 0,1,3,3, 0,1,3,3, 0,1,3,3, 2,1,0,2, 0,1,3,3, 2,1,2,3, 3,1,1,3);
        waysOf(9999, 32, 1, 1,1,2,2, 1,1,3,3, 2,1,3,3, 3,1,0,3, 1,1,2,3, 2,1,3,3, 2,1,1,3, 3,1,0,3, 2,1,1,3, 2,1,3,2, 3,1,0,1, 0,1,3,3);
    }

    private static void waysOf(int due, int from, int to, int... fours) {
        OpensLikeThat x = new OpensLikeThat();
        for (int i = 0; i < 12; i++) {
            x.move(fours[4 * i] * 10 + fours[4 * i + 1], fours[4 * i + 2]);
            x.mend(i, 1, fours[4 * i + 3]);
        }
        Check.due("ways " + from + " to " + to, due, x.ways(from, to));
    }

    /** "whether (1, 0) from each STATE that can be reached one can come back": of 54 one cannot. */
    private static void oneStateOfMany() {
        OpensLikeThat x = Beach.wheels();
        for (int s = 0; s < 54; s++) {
            Check.due("all hang together: " + s, 1, x.backFrom(s));
        }
        // SIDE turns one way only, to the first of all STATES or to the last.
        int[] ahead = {1, 52};
        for (int s : ahead) {
            OpensLikeThat y = new OpensLikeThat();
            y.move(31, s % 2);
            Check.due("no way back to " + s, 0, y.backFrom(s));
            Check.due("none to go", 1, y.backFrom(s == 1 ? 0 : 53));
            y.move(31, 1 - s % 2);
            Check.due("there and back", 1, y.backFrom(s));
        }
    }

    /** "which (bits)": each of many MOVES is NEEDED, and none of like ones. */
    private static void eachIsNeeded() {
        OpensLikeThat x = new OpensLikeThat();
        int[] wb = {1, 1, 11, 11, 31, 21, 21};
        int[] from = {0, 1, 1, 2, 1, 0, 3};
        for (int i = 0; i < wb.length; i++) {
            x.move(wb[i], from[i]);
        }
        Check.due("from FOLD 0, CLOTH 1, SIDE 1", 31, x.needed(7));
        Check.due("from FOLD 1, CLOTH 2, SIDE 0", 2 + 8, x.needed(30));
        Check.due("from a CHAIR", 0, x.needed(40));
        OpensLikeThat y = new OpensLikeThat();
        y.move(2, 0);
        y.move(1, 3);
        Check.due("a shorter way is not NEEDED, if there is a longer one", 0, y.needed(0));
        Check.due("but it is from FOLD 1", 2, y.needed(18));
        for (int i = 0; i < 5; i++) {
            x.move(wb[i], from[i]);
            Check.due("two of MOVE " + i, 31 & -(2 << i), x.needed(7));
        }
        Check.due("12 MOVES, none is NEEDED", 0, x.needed(7));
        Check.due("12 MOVES: each by two leaves all", 54, x.oneWay(1));
        Check.due("the least", 0, x.oneWay(0));
    }
}
