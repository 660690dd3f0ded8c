/** THE TAPE, THE LAW, its FAULT, and how many seconds it gives (promises 7, 8 and 10, and part 1 of the Terms). */
public final class LawTest {
    private static final String DIGITS = "0123456789", NAMES = "dhfnkm", O = DIGITS + NAMES, OPENS = "(!-";
    private static final String SIGNS = "|&+-*/%", COMPARES = "<=>";

    public static void main(String[] args) {
        tape();
        names();
        numbersAreHeld();
        signs();
        ints();
        whichBindsTighter();
        lines();
        longTexts();
        whichBytesGoOn();
        howManyAreOpen();
        faults();
        aFaultLeavesTheLaw();
        withoutAText();
        noneMakesIt();
        Check.end();
    }

    /** "at most 120 bytes"; "A byte (0 .. 255) comes to THE TAPE: how many it has"; "THE TAPE is empty then". */
    private static void tape() {
        OpensLikeThat x = new OpensLikeThat();
        Check.due("feed(-1)", Beach.BAD, x.feed(-1));
        Check.due("feed(256)", Beach.BAD, x.feed(256));
        for (int i = 1; i <= 120; i++) {
            Check.due("bytes ahead of it", i - 1, x.count(2));
            Check.due("feed", i, x.feed(i * 2));
        }
        Check.due("one too many", Beach.FULL, x.feed(0));
        Check.due("BAD ahead of FULL", Beach.BAD, x.feed(256));
        Check.due("count", 120, x.count(2));
        Check.due("none of it is a text", -100, x.law());
        Check.due("empty then", 0, x.count(2));
        Check.due("an empty one is none", -100, x.law());
        Check.due("feed(0)", 1, x.feed(0));
        Check.due("feed(255)", 2, x.feed(255));
        Check.due("neither is a sign", -100, x.law());
        Check.due("a new text", 1, Beach.law(x, "5"));
        Check.due("empty then", 0, x.count(2));
        Check.due("what was a law is fed no more", -100, x.law());
    }

    /** MOVE 5 of one with DEFT 7 that KNOWS it, HARD 4, ahead of STATE 2 * 18 + 2 (FOLD 2, NOTCH 1). */
    private static OpensLikeThat ready() {
        OpensLikeThat x = new OpensLikeThat();
        for (int i = 0; i < 6; i++) {
            x.move(1, 3);
        }
        x.person(7, 1);
        x.mend(5, 2, 4);
        x.mend(0, 4, 32);
        return x;
    }

    private static void gives(String text, int seconds) {
        OpensLikeThat x = ready();
        Check.due("law " + text, 1, Beach.law(x, text));
        Check.due("the tape is empty", 0, x.count(2));
        Check.due("seconds by " + text, seconds, x.takes(0, 5, 38));
    }

    /** "NAMES: d DEFT, h HARD, f FOLD, n NOTCH, k 1 if it KNOWS the MOVE, else 0, m the MOVE." */
    private static void names() {
        OpensLikeThat x = new OpensLikeThat();
        for (int i = 0; i < 12; i++) {
            x.move(31, 3);
        }
        x.person(0, 1);
        x.person(9, 1);
        x.mend(11, 2, 9);
        x.mend(10, 2, 0);
        x.mend(1, 4, 2049);
        int[][] due = {{0, 9}, {0, 9}, {0, 2}, {0, 2}, {0, 1}, {0, 11}};
        for (int i = 0; i < 6; i++) {
            Beach.law(x, NAMES.substring(i, i + 1));
            int least = i == 1 ? x.takes(0, 10, 0) : x.takes(0, 0, 0);
            Check.due("the least of " + NAMES.charAt(i), due[i][0], least);
            Check.due("the most of " + NAMES.charAt(i), due[i][1], x.takes(1, 11, 53));
        }
        Beach.law(x, "k+1");
        Check.due("it KNOWS MOVE 0", 2, x.takes(1, 0, 0));
        Check.due("not MOVE 1", 1, x.takes(1, 1, 0));
        Check.due("another does not", 1, x.takes(0, 11, 0));
        Beach.law(x, "9*f+3*n");
        for (int s = 0; s < 54; s++) {
            Check.due("FOLD and NOTCH of STATE " + s, s / 18 * 9 + s / 2 % 3 * 3, x.takes(0, 0, s));
        }
        gives("d", 7);
        gives("h", 4);
        gives("f", 2);
        gives("n", 1);
        gives("k", 1);
        gives("m", 5);
    }

    /** "held within 0 .. 99". */
    private static void numbersAreHeld() {
        gives("0", 0);
        gives("1", 1);
        gives("98", 98);
        gives("99", 99);
        gives("100", 99);
        gives("101", 99);
        gives("9999", 99);
        gives("-1", 0);
        gives("-9999", 0);
        gives("0000", 0);
        gives("0099", 99);
        gives("0008", 8);
        gives("9999-9901", 98);
        gives("9999=9999", 1);
        gives("9999>9998", 1);
        gives("1000=999", 0);
    }

    /** "/ and % toward 0, by 0 they give 0; | & < = > ! give 1, 0". */
    private static void signs() {
        gives("17/5", 3);
        gives("50+-17/5", 47);
        gives("50+17/-5", 47);
        gives("50+-17/-5", 53);
        gives("50+-17%5", 48);
        gives("50+17%-5", 52);
        gives("50+-17%-5", 48);
        gives("50+-1/2", 50);
        gives("17%5", 2);
        gives("9/0", 0);
        gives("9%0", 0);
        gives("0/0", 0);
        gives("0%0", 0);
        gives("7+-9/0", 7);
        gives("7+-9%0", 7);
        gives("3+9/(d-7)", 3);
        gives("3+9%(d-7)", 3);
        gives("!d", 0);
        gives("!0", 1);
        gives("!1", 0);
        gives("!-1", 0);
        gives("!!d", 1);
        gives("!(d-7)", 1);
        gives("5--3", 8);
        gives("--3", 3);
        gives("---3+9", 6);
        gives("1<2", 1);
        gives("2<1", 0);
        gives("2<2", 0);
        gives("-2<-1", 1);
        gives("2>1", 1);
        gives("1>2", 0);
        gives("2>2", 0);
        gives("2=2", 1);
        gives("2=3", 0);
        gives("7|0", 1);
        gives("0|7", 1);
        gives("7|7", 1);
        gives("0|0", 0);
        gives("-1|0", 1);
        gives("7&9", 1);
        gives("1&2", 1);
        gives("7&0", 0);
        gives("0&7", 0);
        gives("0&0", 0);
        gives("-1&-1", 1);
        for (String none : new String[] {"0|0", "0&0", "1&0", "0&1", "2<1", "2<2", "2=3", "3=2", "1>2", "2>2", "!1", "!-1", "5/0", "5%0"}) {
            gives("50+(" + none + ")*10", 50);
        }
        for (String one : new String[] {"7|0", "0|7", "7|7", "7&9", "1<2", "2=2", "2>1", "!0"}) {
            gives("50+(" + one + ")*10", 60);
        }
        gives("0|0|5", 1);
        gives("5&6&7", 1);
        gives("5&0&7", 0);
    }

    /** "Ints that wrap": 2048 * 2048 * 512 is -2147483648. */
    private static void ints() {
        String least = "2048*2048*512";
        gives(least, 0);
        gives(least + "<0", 1);
        gives(least + "<1", 1);
        gives(least + ">1", 0);
        gives("1<" + least, 0);
        gives("1>" + least, 1);
        gives(least + "-1>" + least, 1);
        gives(least + "<" + least + "-1", 1);
        gives(least + "=0", 0);
        gives(least + "-1", 99);
        gives(least + "-1>0", 1);
        gives(least + "-1+1<0", 1);
        gives("-(" + least + ")<0", 1);
        gives("-(" + least + ")=" + least, 1);
        gives("0-" + least + "<0", 1);
        gives(least + "/-1<0", 1);
        gives(least + "/-1=" + least, 1);
        gives("5+" + least + "%-1", 5);
        gives(least + "+" + least + "+7", 7);
        gives(least + "*2+7", 7);
        gives(least + "/2/2/1000/1000/10", 0);
        gives("-(" + least + "/1000/1000)/100", 21);
        gives("!(" + least + ")", 0);
        gives(least + "|0", 1);
        gives("8192*8192*64+33", 33);
        gives("8192*8192*63<0", 1);
        gives("8192*8192*31>0", 1);
        gives("8192*8192*32<0", 1);
    }

    private static void whichBindsTighter() {
        gives("1|1&0", 1);
        gives("0&1|1", 1);
        gives("(1|1)&0", 0);
        gives("0&1<2", 0);
        gives("(0&1)<2", 1);
        gives("1<2&0", 0);
        gives("3<1+1", 0);
        gives("(3<1)+1", 1);
        gives("1+3<3", 0);
        gives("1+1=2", 1);
        gives("2+3*4", 14);
        gives("(2+3)*4", 20);
        gives("2*3+4", 10);
        gives("20-8/4", 18);
        gives("20-9%4", 19);
        gives("!0*5", 5);
        gives("!(0*5)", 1);
        gives("-1+5", 4);
        gives("-(1+5)+9", 3);
        gives("-1*5+9", 4);
        gives("9-4-3", 2);
        gives("9-(4-3)", 8);
        gives("20-5+3", 18);
        gives("17/5*2", 6);
        gives("17%5*2", 4);
        gives("100/10/5", 2);
        gives("100/(10/5)", 50);
        gives("17%10%4", 3);
        gives("7*9%5", 3);
        gives("1|0&0", 1);
        gives("1<2&2<3", 1);
        gives("1<2&3<2|0", 0);
        gives("((3>2)>1)+7", 7);
        gives("f=2&n=1?d*h-k;5", 27);
    }

    /** "The first LINE without a first E, or whose first E is not 0, counts; none: 0." */
    private static void lines() {
        gives("f?11;12", 11);
        gives("f-2?11;12", 12);
        gives("0?11", 0);
        gives("1?11", 11);
        gives("-1?11;12", 11);
        gives("9999?11;12", 11);
        gives("2048*2048*512?11;12", 11);
        gives("0?11;0?12", 0);
        gives("0?11;0?12;13", 13);
        gives("f-2?11;-1?12;13", 12);
        gives("0?11;3;4", 3);
        gives("0?11;0;4", 0);
        gives("0;3", 0);
        gives("3;1?4", 3);
        gives("1?0;4", 0);
        gives("1?-5;4", 0);
        gives("0?1;2", 2);
        gives("1?2;3", 2);
        gives("0?1|1;0&1?5;6+1", 7);
    }

    private static String again(String part, int times) {
        StringBuilder b = new StringBuilder();
        for (int i = 0; i < times; i++) {
            b.append(part);
        }
        return b.toString();
    }

    /** Texts of 120 bytes, and what they would be by a byte more or less. */
    private static void longTexts() {
        gives(again("1+", 59) + "1", 60);
        gives(again("1+", 59) + "22", 81);
        gives(again("1+", 56) + "1?21+11", 32);
        gives(again("0?1;", 29) + "1?77", 77);
        gives(again("0?1;", 30).substring(0, 119), 0);
        gives(again("0;", 59) + "77", 0);
        gives(again("0?1;", 29) + "88", 88);
        gives(again("0;", 60).substring(0, 119), 0);
        gives("((((((" + again("1+", 53) + "1))))))", 54);
        gives(again("!!!!!!9+", 15).substring(0, 119), 15);
        fault(again("1+", 60), 120);
        fault(again("1+", 59) + "1;", 120);
        fault(again("0?1;", 30), 120);
        fault(again("1+", 59) + "1)", 119);
        fault(again("1+", 59) + "1x", 119);
        fault(again("1+", 58) + "1234", -1);
        fault(again("1+", 57) + "12345+", 118);
        manySigns();
        OpensLikeThat x = ready();
        Beach.feed(x, again("1+", 59) + "22");
        Check.due("none of a full tape is lost by one too many", Beach.FULL, x.feed('x'));
        Check.due("a law of 120 bytes", 1, x.law());
        Check.due("its seconds", 81, x.takes(0, 5, 38));
    }

    /** Of 120 bytes each counts for itself; one law behind the other in one object, long and short. */
    private static void manySigns() {
        String minus = "-1" + again("+1", 59);
        String not = "!0" + again("+1", 59);
        String none = again("0?1;", 29) + "0?-1";
        String last = again("0?1;", 29) + "-5+9";
        behind(new String[] {minus, not, "7", none}, 58, 60, 7, 0);
        behind(new String[] {last, "0?1", minus}, 4, 0, 58);
        behind(new String[] {"0?1;5", "0?2;9", "0?7", "0?3", "6"}, 5, 9, 0, 0, 6);
        behind(new String[] {none, "0;7", minus, "0?7", "0?1;8"}, 0, 0, 58, 0, 8);
    }

    private static void behind(String[] texts, int... due) {
        OpensLikeThat x = ready();
        for (int i = 0; i < texts.length; i++) {
            Check.due("law " + texts[i], 1, Beach.law(x, texts[i]));
            Check.due("seconds by " + texts[i], due[i], x.takes(0, 5, 38));
        }
    }

    /** Behind a text begun, each of 256 bytes: it is whole with it, or begun still, or no TEXT goes on with it. */
    private static void goesOn(String begun, String whole, String more) {
        for (int b = 0; b < 256; b++) {
            OpensLikeThat x = new OpensLikeThat();
            Beach.feed(x, begun);
            x.feed(b);
            int due = whole.indexOf(b) >= 0 ? 1 : more.indexOf(b) >= 0 ? -101 - begun.length() : -100 - begun.length();
            Check.due("law of " + begun + " and byte " + b, due, x.law());
        }
    }

    private static void whichBytesGoOn() {
        goesOn("", O, OPENS);
        goesOn("1", DIGITS, SIGNS + COMPARES + "?;");
        goesOn("12", DIGITS, SIGNS + COMPARES + "?;");
        goesOn("123", DIGITS, SIGNS + COMPARES + "?;");
        goesOn("1234", "", SIGNS + COMPARES + "?;");
        goesOn("d+1234", "", SIGNS + COMPARES + "?;");
        goesOn("d", "", SIGNS + COMPARES + "?;");
        goesOn("d?", O, OPENS);
        goesOn("d?h", "", SIGNS + COMPARES + ";");
        goesOn("d?123", DIGITS, SIGNS + COMPARES + ";");
        goesOn("d;", O, OPENS);
        goesOn("d;h", "", SIGNS + COMPARES + "?;");
        goesOn("d?h;f", "", SIGNS + COMPARES + "?;");
        goesOn("d?h;f?n", "", SIGNS + COMPARES + ";");
        for (char sign : (SIGNS + COMPARES).toCharArray()) {
            goesOn("d" + sign, O, OPENS);
        }
        for (char sign : COMPARES.toCharArray()) {
            goesOn("d" + sign + "h", "", SIGNS + "?;");
        }
        goesOn("1<2+d", "", SIGNS + "?;");
        goesOn("1<2*d", "", SIGNS + "?;");
        goesOn("1<2&d", "", SIGNS + COMPARES + "?;");
        goesOn("1<2|d", "", SIGNS + COMPARES + "?;");
        goesOn("1<2;d", "", SIGNS + COMPARES + "?;");
        goesOn("1<2?d", "", SIGNS + COMPARES + ";");
        goesOn("(1<2)", "", SIGNS + COMPARES + "?;");
        goesOn("(1<d", ")", SIGNS);
        goesOn("1<(d", ")", SIGNS + COMPARES);
        goesOn("1<(2<3)", "", SIGNS + "?;");
        goesOn("!", O, OPENS);
        goesOn("-", O, OPENS);
        goesOn("!d", "", SIGNS + COMPARES + "?;");
        goesOn("-d", "", SIGNS + COMPARES + "?;");
        goesOn("(", "", O + OPENS);
        goesOn("(d", ")", SIGNS + COMPARES);
        goesOn("(123", ")", DIGITS + SIGNS + COMPARES);
        goesOn("(d)", "", SIGNS + COMPARES + "?;");
        goesOn("((d)", ")", SIGNS + COMPARES);
    }

    /** "At most 6 of ( ! - ahead of an O are open at once." */
    private static void howManyAreOpen() {
        goesOn("!!!!!", O, OPENS);
        goesOn("-----", O, OPENS);
        goesOn("(((((", "", O + OPENS);
        goesOn("!!!!!!", O, "");
        goesOn("------", O, "");
        goesOn("((((((", "", O);
        goesOn("(!-(!-", "", O);
        goesOn("-(!-(!", "", O);
        goesOn("!(!(!(", "", O);
        goesOn("((((((d", "", ")" + SIGNS + COMPARES);
        goesOn("((((((d)", "", ")" + SIGNS + COMPARES);
        goesOn("((((((d*", "", O);
        goesOn("((((((d)*", "", O + OPENS);
        goesOn("((((((d)*!", "", O);
        goesOn("!!!!!!d*", O, OPENS);
        goesOn("(((((!d*", "", O + OPENS);
        goesOn("(((((!d*-", "", O);
        goesOn("!(!(!(d)*", "", O + OPENS);
        goesOn("!(!(!(d)*!-", "", O);
        goesOn("((((((d))))))*", O, OPENS);
        goesOn("((((((d))))))*!!!!!!", O, "");
        goesOn("!!!!!!d;!!!!!!", O, "");
        goesOn("!!!!!!d?!!!!!!", O, "");
        gives("((((((9))))))", 9);
        gives("!!!!!!9", 1);
        gives("------9", 9);
        gives("!-!-!-9", 0);
        gives("(!(-(!9)))+8", 9);
        gives("((((((9))))))+((((((8))))))-!-!-!-7", 17);
    }

    private static void fault(String text, int place) {
        OpensLikeThat x = ready();
        Check.due("fault of " + text, place < 0 ? 1 : -100 - place, Beach.law(x, text));
        Check.due("the tape is empty", 0, x.count(2));
    }

    /** "FAULT: the place (from 0) of the first byte with which no TEXT goes on; the length, if it ends too early." */
    private static void faults() {
        fault("", 0);
        fault("x", 0);
        fault("D", 0);
        fault(" 1", 0);
        fault("1 ", 1);
        fault("1 +2", 1);
        fault("1;", 2);
        fault(";", 0);
        fault("1;;2", 2);
        fault("1?", 2);
        fault("?1", 0);
        fault("1?2?3", 3);
        fault("1?2;3?4?5", 7);
        fault("(1?2)", 2);
        fault("(1;2)", 2);
        fault("12345", 4);
        fault("1+12345", 6);
        fault("00000", 4);
        fault("1d", 1);
        fault("d1", 1);
        fault("dd", 1);
        fault("1<2<3", 3);
        fault("1=2>3", 3);
        fault("1<2&3<4<5", 7);
        fault("1+", 2);
        fault("1+*2", 2);
        fault("1++2", 2);
        fault("+1", 0);
        fault("1!2", 1);
        fault("!", 1);
        fault("-", 1);
        fault("()", 1);
        fault("(1", 2);
        fault("(1))", 3);
        fault("((1)", 4);
        fault(")", 0);
        fault("1||2", 2);
        fault("1&|2", 2);
        fault("1<=2", 2);
        fault("(((((((1)))))))", 6);
        fault("!!!!!!!1", 6);
        fault("-------1", 6);
        fault("(!-(!-(1))))", 6);
        fault("(!-(!-!1))", 6);
        fault("1+((((((1+(1)))))))", 10);
        fault("1\u0000", 1);
        fault("1\u00ff", 1);
        fault("h*2.", 3);
        fault("x1)(", 0);
    }

    private static void aFaultLeavesTheLaw() {
        OpensLikeThat x = ready();
        Check.due("no text yet", -101, Beach.law(x, "7x"));
        Check.due("still without a text", 3, x.takes(0, 5, 38));
        Check.due("a law", 1, Beach.law(x, "d*3"));
        Check.due("by it", 21, x.takes(0, 5, 0));
        for (String text : new String[] {"", "x", "44!", "1;", "44;55;(", "1?2?3"}) {
            Check.due("a fault of " + text, 1, Beach.law(x, text) <= -100 ? 1 : 0);
            Check.due("the law ahead stays behind " + text, 21, x.takes(0, 5, 0));
        }
        Check.due("another", 1, Beach.law(x, "f"));
        Check.due("by the other", 1, x.takes(0, 5, 18));
    }

    /** "Without a text: 1 and h, times 2 less k, less d by 3 (cut); 1 at least." */
    private static void withoutAText() {
        for (int hard = 0; hard <= 9; hard++) {
            OpensLikeThat x = new OpensLikeThat();
            x.move(1, 0);
            x.person(0, 1);
            x.mend(0, 2, hard);
            for (int deft = 0; deft <= 9; deft++) {
                for (int k = 0; k < 2; k++) {
                    x.mend(0, 3, deft);
                    x.mend(0, 4, k);
                    int due = Math.max(1, (1 + hard) * (2 - k) - deft / 3);
                    Check.due("takes by no text", due, x.takes(0, 0, 0));
                    Check.due("takes where it MAY not", due, x.takes(0, 0, 53));
                    Check.due("takes nobody", 1, x.takes(-1, 0, 53));
                }
            }
        }
    }

    /** "0: one cannot make it"; nobody's take 1 by any law. */
    private static void noneMakesIt() {
        OpensLikeThat x = ready();
        for (String text : new String[] {"0", "-1", "-99", "0?5", "2048*2048*512"}) {
            Beach.law(x, text);
            Check.due("0 by " + text, 0, x.takes(0, 5, 0));
            Check.due("one cannot by " + text, Beach.NOT, x.way(100, 18, 0));
            Check.due("one cannot by " + text, Beach.NOT, x.way(100, 18, 1));
            Check.due("no NEXT by " + text, Beach.NOT, x.next(100, 18));
            Check.due("no deed by " + text, Beach.NOT, x.make(0, 5));
            Check.due("nobody takes 1 by " + text, 1, x.takes(-1, 5, 0));
            Check.due("nobody can by " + text, 1, x.way(0, 18, 1));
        }
        Beach.law(x, "99");
        Check.due("nobody takes 1", 1, x.takes(-1, 5, 0));
        Beach.law(x, "1");
        Check.due("1: one can", 1, x.way(100, 18, 1));
        Check.due("1: a deed", 18, x.make(0, 5));
    }
}
