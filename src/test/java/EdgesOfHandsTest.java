import java.util.NoSuchElementException;

/** Boundary cases of promises 6 to 12: HANDS, PEOPLE, LETTERS and laws now, letting, ending, lessons. */
public final class EdgesOfHandsTest {
    private static final Edges EDGES = new Edges();
    private static final String TWO = Edges.TWO;
    private static final long ERROR = Long.MIN_VALUE;
    private static final int[] FAR = Edges.FAR;
    private static final String TRILLION = "1000*1000*1000*1000";

    public static void main(String[] args) {
        handExceptions();
        handNotLet();
        handBounds();
        manRefused();
        manBounds();
        letterRefused();
        letterNotWritten();
        letterClashes();
        lawRefused();
        lawErrors();
        lawNames();
        lawCut();
        letRefused();
        letNone();
        letBounds();
        letPurses();
        endRefused();
        endBounds();
        teachRefused();
        teachBounds();
        EDGES.finish(6, 12);
    }

    private static void due(String what, long got, long want) {
        EDGES.due(what, got, want);
    }

    /** 1: that very exception, 2: the other one, 3: another class, 0: none. */
    private static int thrown(HandsLet x, int hand, int what) {
        try {
            x.hand(hand, what);
            return 0;
        } catch (IndexOutOfBoundsException e) {
            return e.getClass() == IndexOutOfBoundsException.class ? 1 : 3;
        } catch (NoSuchElementException e) {
            return e.getClass() == NoSuchElementException.class ? 2 : 3;
        }
    }

    private static void handExceptions() {
        EDGES.sentence(6, "IndexOutOfBoundsException: no such HAND");
        HandsLet x = EDGES.told(TWO);
        HandsLet six = EDGES.told(Edges.SIX);
        due("the last of two", thrown(x, 1, 0), 0);
        due("the last of six", thrown(six, 5, 6), 0);
        for (int what = 0; what <= 6; what++) {
            due("hand -1", thrown(x, -1, what), 1);
            due("hand 2 of two", thrown(x, 2, what), 1);
            due("hand 6 of six", thrown(six, 6, what), 1);
            due("hand 0 of none", thrown(new HandsLet(), 0, what), 1);
        }
        for (int far : FAR) {
            due("hand " + far, thrown(x, far, 0), 1);
            due("hand " + far + " and what " + far, thrown(x, far, far), 1);
        }
        due("no such HAND and no such what", thrown(x, 2, 7), 1);
        due("no such HAND and what -1", thrown(x, -1, -1), 1);
        EDGES.sentence(6, "NoSuchElementException: no such what");
        for (int hand = 0; hand < 2; hand++) {
            due("what -1", thrown(x, hand, -1), 2);
            due("what 7", thrown(x, hand, 7), 2);
            for (int far : FAR) {
                due("what " + far, thrown(x, hand, far), 2);
            }
        }
        EDGES.idle("an exception", Edges::busy, y -> Checks.hand(y, 3, 0), Checks.NO_HAND);
        EDGES.idle("the other one", Edges::busy, y -> Checks.hand(y, 0, 7), Checks.NO_WHAT);
    }

    private static void handNotLet() {
        EDGES.sentence(6, "3 the TENANT (-2: it isn't LET), 4 for how many DAYS yet (0: it isn't LET)");
        HandsLet x = EDGES.told(TWO);
        due("no TENANT", x.hand(1, 3), -2);
        due("no DAYS", x.hand(1, 4), 0);
        x.let(1, 0, 1, 0);
        due("TENANT 0", x.hand(1, 3), 0);
        due("the last DAY", x.hand(1, 4), 1);
        x.go(1);
        due("no TENANT behind it", x.hand(1, 3), -2);
        due("no DAYS behind it", x.hand(1, 4), 0);
        x.let(1, 0, 99, 0);
        due("the most DAYS", x.hand(1, 4), 99);
        x.go(98);
        due("a DAY ahead of its end", x.hand(1, 3) * 10 + x.hand(1, 4), 1);
        x.go(1);
        due("at its end", x.hand(1, 3), -2);
        due("twice", x.hand(1, 5), 2);
    }

    private static void handBounds() {
        EDGES.sentence(6, "0 SLANT, 1 LOOPS, 2 WEIGHT (thousandths)");
        HandsLet x = EDGES.told(TWO);
        for (int what = 0; what < 3; what++) {
            due("the least", x.hand(0, what), 0);
            due("the most", x.hand(1, what), 99000);
        }
        EDGES.sentence(6, "6 who HOLDS it");
        due("the owner", x.hand(1, 6), 1);
        x.let(1, 0, 1, 0);
        due("the TENANT", x.hand(1, 6), 0);
        x.end(1);
        due("the owner again", x.hand(1, 6), 1);
    }

    private static void manRefused() {
        EDGES.sentence(7, "NONE: no such ones");
        HandsLet x = EDGES.told(TWO);
        HandsLet six = EDGES.told(Edges.SIX);
        for (int what = 0; what <= 5; what++) {
            due("man -1", x.man(-1, what), -1);
            due("man 2 of two", x.man(2, what), -1);
            due("man 6 of six", six.man(6, what), -1);
            due("man 0 of none", new HandsLet().man(0, what), -1);
        }
        due("what -1", x.man(0, -1), -1);
        due("what 6", x.man(0, 6), -1);
        due("the last of six", six.man(5, 0), 5);
        for (int far : FAR) {
            due("man " + far, x.man(far, 0), -1);
            due("what " + far, x.man(0, far), -1);
        }
    }

    private static void manBounds() {
        EDGES.sentence(7, "2 WEIGHT as told, 3 PURSE now, 4 HANDS (bits) he HOLDS now, 5 how many LETTERS of "
                + "his were FORGED so far");
        HandsLet x = EDGES.told("man a 0 0 0 0;man b 99 99 99 999;");
        due("the least PURSE", x.man(0, 3), 0);
        due("the most PURSE", x.man(1, 3), 999);
        due("the most WEIGHT", x.man(1, 2), 99);
        x.let(0, 1, 1, 0);
        x.end(0);
        due("as told, though the HAND is worn", x.man(0, 2), 0);
        HandsLet six = EDGES.told(Edges.SIX);
        for (int hand = 1; hand < 6; hand++) {
            six.let(hand, 0, 9, 0);
        }
        due("all six", six.man(0, 4), 63);
        due("none", six.man(5, 4), 0);
        six.let(0, 5, 9, 0);
        due("his own is LET", six.man(0, 4), 62);
        due("that of another", six.man(5, 4), 1);
        HandsLet forger = EDGES.told(TWO + "letter a b 99;".repeat(12));
        due("none FORGED so far", forger.man(0, 5), 0);
        forger.go(99);
        due("none ahead of its DAY", forger.man(0, 5), 0);
        forger.go(1);
        due("all twelve", forger.man(0, 5), 12);
        due("of the owner none", forger.man(1, 5), 0);
        HandsLet fine = EDGES.told("man a 0 0 0 10;man b 0 0 0 9;man c 0 0 0 11;letter a b 0;letter b a 0;"
                + "letter c a 0;watch 100;");
        fine.go(1);
        due("10 less 10", fine.man(0, 3), 0);
        due("9 less 10: 0 at least", fine.man(1, 3), 0);
        due("11 less 10", fine.man(2, 3), 1);
    }

    private static void letterRefused() {
        EDGES.sentence(8, "NONE: no such ones");
        HandsLet x = EDGES.told(TWO + "letter b a 7;");
        HandsLet twelve = EDGES.told(TWO + "letter b a 7;".repeat(12));
        for (int what = 0; what <= 8; what++) {
            due("letter -1", x.letter(-1, what), -1);
            due("letter 1 of one", x.letter(1, what), -1);
            due("letter 12 of twelve", twelve.letter(12, what), -1);
            due("letter 0 of none", EDGES.told(TWO).letter(0, what), -1);
        }
        due("what -1", x.letter(0, -1), -1);
        due("what 9", x.letter(0, 9), -1);
        due("the last of twelve", twelve.letter(11, 2), 7);
        for (int far : FAR) {
            due("letter " + far, x.letter(far, 0), -1);
            due("what " + far, x.letter(0, far), -1);
        }
        x.go(8);
        due("what 9, written", x.letter(0, 9), -1);
        due("what -1, written", x.letter(0, -1), -1);
    }

    private static void letterNotWritten() {
        EDGES.sentence(8, "3: 0 not written, 1 GOOD, 2 FORGED");
        HandsLet each = EDGES.told(TWO + "letter a a 0;letter b a 0;letter a a 1;");
        due("not written", each.letter(0, 3) + each.letter(1, 3) + each.letter(2, 3), 0);
        each.go(1);
        due("GOOD, FORGED, not written", each.letter(0, 3) * 100 + each.letter(1, 3) * 10 + each.letter(2, 3), 120);
        EDGES.sentence(8, "6 .. 8 SLANT, LOOPS, WEIGHT (thousandths; -2: not written)");
        HandsLet x = EDGES.told(TWO + "letter b b 0;letter a b 99;");
        for (int what = 3; what <= 8; what++) {
            due("not written, what " + what, x.letter(0, what), what < 6 ? 0 : -2);
        }
        x.go(1);
        due("GOOD", x.letter(0, 3), 1);
        due("the most SLANT", x.letter(0, 6), 99000);
        due("the most WEIGHT", x.letter(0, 8), 99000);
        x.go(98);
        for (int what = 3; what <= 8; what++) {
            due("not on DAY 98, what " + what, x.letter(1, what), what < 6 ? 0 : -2);
        }
        x.go(1);
        due("FORGED on DAY 99", x.letter(1, 3), 2);
        due("half of 99000", x.letter(1, 8), 49500);
        due("its DAY", x.letter(1, 2), 99);
        EDGES.sentence(8, "5 whether it was FOUND (1, 0)");
        due("the bank never looks", x.letter(1, 5), 0);
        HandsLet late = EDGES.told(TWO + "letter a b 0;letter a b 1;seed 1;watch 58;");
        late.go(2);
        due("38 is below 58", late.letter(0, 5), 1);
        due("58 isn't", late.letter(1, 5), 0);
        due("of a DAY on which it doesn't look they never are", late.go(200), 202);
        due("never", late.letter(1, 5), 0);
    }

    private static void letterClashes() {
        EDGES.sentence(8, "if a LETTER in this HAND was written ahead of it on this DAY, it CLASHES (the first "
                + "one doesn't)");
        HandsLet x = EDGES.told(TWO + "letter a a 5;".repeat(12));
        x.go(6);
        due("the first one of twelve", x.letter(0, 4), 0);
        due("the second one", x.letter(1, 4), 1);
        due("the last one", x.letter(11, 4), 1);
        due("eleven", x.count(8), 11);
        HandsLet apart = EDGES.told(TWO + "letter a a 5;letter a a 6;letter a b 5;letter b b 6;");
        apart.go(7);
        due("another DAY, another HAND", apart.count(8), 0);
        HandsLet one = EDGES.told(TWO + "letter a a 5;");
        one.go(6);
        due("alone", one.letter(0, 4), 0);
    }

    private static void lawRefused() {
        EDGES.sentence(9, "Long.MIN_VALUE: an ERROR, no such law, no such ones, a PRICE not 0 .. 99");
        String laws = "law rent price+1;law turn 2;law fine 3;";
        HandsLet x = EDGES.told(TWO + laws);
        due("PRICE 0", x.law(0, 0, 1, 0), 1);
        due("PRICE 99", x.law(0, 0, 1, 99), 100);
        due("PRICE -1", x.law(0, 0, 1, -1), ERROR);
        due("PRICE 100", x.law(0, 0, 1, 100), ERROR);
        for (int what = 0; what < 3; what++) {
            due("hand -1", x.law(what, -1, 1, 0), ERROR);
            due("hand 2 of two", x.law(what, 2, 1, 0), ERROR);
            due("man -1", x.law(what, 0, -1, 0), ERROR);
            due("man 2 of two", x.law(what, 0, 2, 0), ERROR);
            due("no such law", EDGES.told(TWO).law(what, 0, 1, 0), ERROR);
            due("the last of two", x.law(what, 1, 0, 0), what + 1);
            for (int far : FAR) {
                due("hand " + far, x.law(what, far, 1, 0), ERROR);
                due("man " + far, x.law(what, 0, far, 0), ERROR);
            }
        }
        for (int far : FAR) {
            due("what " + far, x.law(far, 0, 1, 0), ERROR);
            due("PRICE " + far, x.law(0, 0, 1, far), ERROR);
        }
        due("what -1", x.law(-1, 0, 1, 0), ERROR);
        due("what 3", x.law(3, 0, 1, 0), ERROR);
        due("another law alone", EDGES.told(TWO + "law turn 2;").law(0, 0, 1, 0), ERROR);
        due("another law alone", EDGES.told(TWO + "law rent 2;").law(2, 0, 1, 0), ERROR);
        EDGES.sentence(9, "the PRICE isn't looked at");
        for (int price : new int[] {-1, 100, Integer.MIN_VALUE, Integer.MAX_VALUE}) {
            due("of turn", x.law(1, 0, 1, price), 2);
            due("of fine", x.law(2, 0, 1, price), 3);
        }
        HandsLet named = EDGES.told(TWO + "law turn price;law fine price;");
        due("it is 0 of turn", named.law(1, 0, 1, 50), 0);
        due("it is 0 of fine", named.law(2, 0, 1, 50), 0);
    }

    private static void lawOf(String e, long want) {
        HandsLet x = EDGES.told("man a 8 1 2 99;man b 3 4 5 20;law rent " + e + ";law turn " + e + ";");
        due("rent " + e, x.law(0, 0, 1, 0), want);
        due("turn " + e, x.law(1, 0, 1, 0), want);
    }

    private static void lawErrors() {
        EDGES.sentence(9, "ERROR: / by 0, a value above 10 to the 12 or below 0 by more than that");
        lawOf("1/0", ERROR);
        lawOf("0/0", ERROR);
        lawOf("0/1", 0);
        lawOf("1/(1-1)", ERROR);
        lawOf("1/times", ERROR);
        lawOf("0*(1/0)", ERROR);
        lawOf(TRILLION, 1000000000000L);
        lawOf(TRILLION + "+1", ERROR);
        lawOf(TRILLION + "+1-1", ERROR);
        lawOf(TRILLION + "+(1-1)", 1000000000000L);
        lawOf(TRILLION + "-(0-1)", ERROR);
        lawOf("1+" + TRILLION, ERROR);
        lawOf("0-" + TRILLION, -1000000000000L);
        lawOf("0-" + TRILLION + "-1", ERROR);
        lawOf("0-1-" + TRILLION, ERROR);
        lawOf("0-" + TRILLION + "+1", -999999999999L);
        lawOf("0-" + TRILLION + "+(0-1)", ERROR);
        lawOf("(0-" + TRILLION + ")*1", -1000000000000L);
        lawOf("(0-1)*(" + TRILLION + ")", -1000000000000L);
        lawOf("(0-" + TRILLION + ")*(0-1)", 1000000000000L);
        lawOf("(0-" + TRILLION + ")/(0-1)", 1000000000000L);
        lawOf("9999*9999*9999", 999700029999L);
        lawOf("9999*9999*9999*2", ERROR);
        lawOf("(0-9999)*9999*9999*2", ERROR);
        lawOf("9999*9999*9999*9999*9999", ERROR);
        lawOf("(" + TRILLION + ")*(" + TRILLION + ")*(" + TRILLION + ")", ERROR);
        lawOf(TRILLION + "*2*0", ERROR);
        lawOf(TRILLION + "*0*2", 0);
        EDGES.sentence(9, "both sides are worked out");
        lawOf("1 or 1/0", ERROR);
        lawOf("0 and 1/0", ERROR);
        lawOf("1/0 or 1", ERROR);
        lawOf("not (1/0)", ERROR);
        lawOf("1/0=1/0", ERROR);
        lawOf("1 or " + TRILLION + "*2", ERROR);
    }

    private static void lawNames() {
        EDGES.sentence(9, "slant, loops, weight: those of the HAND, by 1000, cut");
        HandsLet x = EDGES.told("man a 0 99 50 0;man b 99 0 51 999;law turn 999;law rent slant*9999+loops*100+weight;");
        due("at first", x.law(0, 0, 1, 0), 9950);
        x.let(0, 1, 1, 0);
        due("RENT is 999 at most, all b has", x.count(5), 1);
        x.end(0);
        due("98901, 99, 50999 by 1000, cut", x.law(0, 0, 1, 0), 98 * 9999 + 50);
        EDGES.sentence(9, "times: how often the HAND was LET; day: the DAY");
        HandsLet last = EDGES.told("man a 1 0 0 0;man b 2 0 0 0;man c 3 0 0 0;man d 4 5 6 0;"
                + "law fine slant*100+loops*10+weight;");
        due("of the last HAND", last.law(2, 3, 0, 0), 456);
        HandsLet y = EDGES.told(TWO + "law rent times;law fine day;");
        due("never", y.law(0, 0, 1, 0), 0);
        y.let(0, 1, 1, 0);
        due("not while it is", y.law(0, 0, 1, 0), 0);
        y.go(1);
        due("once", y.law(0, 0, 1, 0), 1);
        due("of the other HAND", y.law(0, 1, 0, 0), 0);
        due("DAY 1", y.law(2, 0, 1, 0), 1);
        EDGES.sentence(9, "purse: PURSE of the TENANT (of fine of who wrote it)");
        HandsLet z = EDGES.told("man a 0 0 0 0;man b 0 0 0 999;law rent purse;law fine purse;");
        due("the most", z.law(0, 0, 1, 0), 999);
        due("none", z.law(2, 1, 0, 0), 0);
    }

    private static void lawCut() {
        EDGES.sentence(9, "/ is cut towards 0");
        lawOf("7/2", 3);
        lawOf("(0-7)/2", -3);
        lawOf("7/(0-2)", -3);
        lawOf("(0-7)/(0-2)", 3);
        lawOf("(0-1)/2", 0);
        lawOf("1/2", 0);
        EDGES.sentence(9, "comparisons, and, or, not are 1 or 0 (what isn't 0 is as 1");
        lawOf("not 0", 1);
        lawOf("not 1", 0);
        lawOf("not 9999", 0);
        lawOf("not (0-1)", 0);
        lawOf("(0-1) and 2", 1);
        lawOf("0 or (0-5)", 1);
        lawOf("0 or 0", 0);
        lawOf("5 and 0", 0);
        lawOf("1 and 1", 1);
        due("63 times not", EDGES.told(TWO + "law rent " + "not ".repeat(63) + "0;").law(0, 0, 1, 0), 1);
        due("62 times not", EDGES.told(TWO + "law rent " + "not ".repeat(62) + "0;").law(0, 0, 1, 0), 0);
        lawOf("not ".repeat(31) + "0", 1);
        EDGES.sentence(9, "E: A { or A }. A: B { and B }. B: not B | C.");
        lawOf("1 or 1 and 0", 1);
        lawOf("(1 or 1) and 0", 0);
        lawOf("0 and 0 or 1", 1);
        lawOf("not 0 and 0", 0);
        lawOf("not (0 and 0)", 1);
        lawOf("not 1 or 1", 1);
        lawOf("not 1=2", 1);
        lawOf("not 0+1", 0);
        lawOf("(0 or 1)*5", 5);
        lawOf("(1 and 1)*5", 5);
        lawOf("(not 0)*5", 5);
        lawOf("(1<2)*5", 5);
        lawOf("1+2*3-4/2", 5);
        lawOf("9-3-2", 4);
        lawOf("100/10/5", 2);
        lawOf("1+1<3*1", 1);
        EDGES.sentence(9, "comparisons, and, or, not are 1 or 0 (what isn't 0 is as 1");
        for (int a = 1; a <= 3; a++) {
            lawOf(a + "<2", a < 2 ? 1 : 0);
            lawOf(a + "<=2", a <= 2 ? 1 : 0);
            lawOf(a + "=2", a == 2 ? 1 : 0);
            lawOf(a + "<>2", a != 2 ? 1 : 0);
            lawOf(a + ">=2", a >= 2 ? 1 : 0);
            lawOf(a + ">2", a > 2 ? 1 : 0);
        }
    }

    private static void letRefused() {
        EDGES.sentence(10, "-2: it would be REFUSED");
        EDGES.idle("LET already", Edges::busy, x -> x.let(1, 2, 1, 0), -2);
        EDGES.idle("LET already to him", Edges::busy, x -> x.let(1, 0, 1, 0), -2);
        EDGES.idle("a PURSE too small", Edges::busy, x -> x.let(0, 2, 1, 6), -2);
        EDGES.idle("a PURSE too small for the most", Edges::busy, x -> x.let(0, 2, 99, 99), -2);
        HandsLet even = EDGES.told("man a 0 0 0 0;man b 0 0 0 5;");
        due("one more than he has", even.let(0, 1, 1, 6), -2);
        due("just what he has", even.let(0, 1, 1, 5), 0);
        due("not counted", even.count(10), 0);
        HandsLet poor = EDGES.told("man a 0 0 0 0;man b 0 0 0 0;");
        due("1 of nothing", poor.let(0, 1, 1, 1), -2);
        due("0 of nothing", poor.let(0, 1, 1, 0), 0);
        HandsLet law = EDGES.told("man a 0 0 0 0;man b 0 0 0 998;law rent 999;");
        due("999 of 998", law.let(0, 1, 1, 0), -2);
        HandsLet rich = EDGES.told("man a 0 0 0 0;man b 0 0 0 999;law rent 999;");
        due("999 of 999", rich.let(0, 1, 1, 0), 0);
    }

    private static void letNone() {
        EDGES.sentence(10, "NONE: no such ones, the owner");
        int[][] wrong = {{-1, 0, 1, 0}, {3, 0, 1, 0}, {2, -1, 1, 0}, {2, 3, 1, 0}, {2, 2, 1, 0}, {0, 0, 1, 0}, {1, 1, 1, 0},
            {2, 0, 0, 0}, {2, 0, 100, 0}, {2, 0, -1, 0}, {2, 0, 1, -1}, {2, 0, 1, 100}, {1, 0, 0, 0}, {1, 0, 1, 100},
            {-1, -1, 1, 0}, {3, 3, 1, 0}};
        for (int[] w : wrong) {
            EDGES.idle("let " + w[0] + " " + w[1] + " " + w[2] + " " + w[3], Edges::busy, x -> x.let(w[0], w[1], w[2], w[3]), -1);
        }
        for (int far : FAR) {
            EDGES.idle("hand " + far, Edges::busy, x -> x.let(far, 0, 1, 0), -1);
            EDGES.idle("man " + far, Edges::busy, x -> x.let(2, far, 1, 0), -1);
            EDGES.idle("both " + far, Edges::busy, x -> x.let(far, far, 1, 0), -1);
            EDGES.idle("days " + far, Edges::busy, x -> x.let(2, 0, far, 0), -1);
            EDGES.idle("price " + far, Edges::busy, x -> x.let(2, 0, 1, far), -1);
        }
    }

    private static void letBounds() {
        EDGES.sentence(10, "for DAYS 1 .. 99 at a PRICE 0 .. 99 now");
        HandsLet x = EDGES.told(TWO);
        due("1 DAY for 0", x.let(0, 1, 1, 0), 100);
        due("99 DAYS for 99", x.let(1, 0, 99, 99), 1);
        due("1", x.free(0), 1);
        due("99", x.free(1), 99);
        due("two deeds", x.count(13), 2);
    }

    private static void letPurses() {
        EDGES.sentence(10, "RENT is E of rent (0 .. 999; PRICE without, with an ERROR) of the HAND and the TENANT");
        String rich = "man a 0 0 0 999;man b 0 0 0 999;";
        due("below 0", EDGES.told(rich + "law rent 0-1;").let(0, 1, 1, 50), 999);
        due("far below 0", EDGES.told(rich + "law rent 0-" + TRILLION + ";").let(0, 1, 1, 50), 999);
        due("0", EDGES.told(rich + "law rent 0;").let(0, 1, 1, 50), 999);
        due("1", EDGES.told(rich + "law rent 1;").let(0, 1, 1, 50), 998);
        due("998", EDGES.told(rich + "law rent 998;").let(0, 1, 1, 50), 1);
        due("999", EDGES.told(rich + "law rent 999;").let(0, 1, 1, 50), 0);
        due("1000", EDGES.told(rich + "law rent 1000;").let(0, 1, 1, 50), 0);
        due("a trillion", EDGES.told(rich + "law rent " + TRILLION + ";").let(0, 1, 1, 50), 0);
        due("an ERROR", EDGES.told(rich + "law rent 1/0;").let(0, 1, 1, 50), 949);
        due("more than a trillion", EDGES.told(rich + "law rent " + TRILLION + "+1;").let(0, 1, 1, 50), 949);
        due("without", EDGES.told(rich).let(0, 1, 1, 50), 949);
        EDGES.sentence(10, "the PURSE is less by RENT, the owner's more (9999 at most)");
        String six = "man a 0 0 0 999;man b 0 0 0 999;man c 0 0 0 999;man d 0 0 0 999;man e 0 0 0 999;"
                + "man f 0 0 0 999;law rent 999;";
        HandsLet x = EDGES.told(six);
        for (int man = 1; man < 6; man++) {
            due("all he has", x.let(0, man, 1, 0), 0);
            x.end(0);
        }
        due("all PURSES: there is no way to 9999", x.man(0, 3), 5994);
        due("the same in sum", x.count(6), 5994);
    }

    private static void endRefused() {
        EDGES.sentence(11, "-2: it isn't LET");
        EDGES.idle("never LET", Edges::busy, x -> x.end(2), -2);
        EDGES.idle("back by then", Edges::busy, x -> x.end(0), -2);
        HandsLet x = EDGES.told(TWO);
        x.let(0, 1, 5, 0);
        due("LET", x.end(0), 1);
        due("not twice", x.end(0), -2);
        EDGES.sentence(11, "NONE: no such HAND");
        for (int hand : new int[] {-1, 3, 6, Integer.MIN_VALUE, Integer.MAX_VALUE}) {
            EDGES.idle("hand " + hand, Edges::busy, y -> y.end(hand), -1);
        }
        due("hand 6 of six", EDGES.told(Edges.SIX).end(6), -1);
        due("the last of six", EDGES.told(Edges.SIX).end(5), -2);
    }

    private static int turned(String a, String b, String law) {
        HandsLet x = EDGES.told("man a " + a + " 0 0 0;man b " + b + " 0 0 0;" + law);
        x.let(0, 1, 9, 0);
        x.end(0);
        return x.hand(0, 0);
    }

    private static void endBounds() {
        EDGES.sentence(11, "times E of turn (0 .. 1000; 10 times wear without, with an ERROR), by 1000, cut towards 0");
        due("below 0", turned("10", "20", "law turn 0-1;"), 10000);
        due("0", turned("10", "20", "law turn 0;"), 10000);
        due("1", turned("10", "20", "law turn 1;"), 10010);
        due("999", turned("10", "20", "law turn 999;"), 19990);
        due("1000", turned("10", "20", "law turn 1000;"), 20000);
        due("1001", turned("10", "20", "law turn 1001;"), 20000);
        due("a trillion", turned("0", "99", "law turn " + TRILLION + ";"), 99000);
        due("an ERROR", turned("10", "20", "law turn 1/0;"), 12000);
        due("an ERROR and wear", turned("10", "20", "wear 70;law turn 1/0;"), 17000);
        due("without", turned("10", "20", ""), 12000);
        due("wear 0", turned("10", "20", "wear 0;"), 10000);
        due("wear 1", turned("10", "20", "wear 1;"), 10100);
        due("wear 100", turned("10", "20", "wear 100;"), 20000);
        due("the most up", turned("0", "99", "wear 100;"), 99000);
        due("the most down", turned("99", "0", "wear 100;"), 0);
        HandsLet x = EDGES.told("man a 0 1 0 0;man b 1 0 0 0;law turn 999-times*998;");
        x.let(0, 1, 9, 0);
        x.end(0);
        due("999 up", x.hand(0, 0), 999);
        due("999 down", x.hand(0, 1), 1);
        x.let(0, 1, 9, 0);
        due("twice", x.end(0), 2);
        due("1 by 1 by 1000 up, cut towards 0", x.hand(0, 0), 999);
        due("1 by 1 by 1000 down, cut towards 0", x.hand(0, 1), 1);
        EDGES.sentence(11, "(all three by one E ahead of it, times as it was)");
        due("its PRICE is 0", turned("10", "20", "law turn price*500;"), 10000);
        HandsLet one = EDGES.told("man a 0 0 0 0;man b 10 10 10 0;law turn (slant=0)*500+times*7;");
        one.let(0, 1, 9, 0);
        one.end(0);
        due("SLANT", one.hand(0, 0), 5000);
        due("WEIGHT by the same E", one.hand(0, 2), 5000);
    }

    private static void teachRefused() {
        EDGES.sentence(12, "-2: it is LET");
        EDGES.idle("LET", Edges::busy, x -> x.teach(1), -2);
        EDGES.sentence(12, "NONE: no such HAND");
        for (int hand : new int[] {-1, 3, 6, Integer.MIN_VALUE, Integer.MAX_VALUE}) {
            EDGES.idle("hand " + hand, Edges::busy, y -> y.teach(hand), -1);
        }
        due("hand 6 of six", EDGES.told(Edges.SIX).teach(6), -1);
        due("the last of six", EDGES.told(Edges.SIX).teach(5), 0);
        HandsLet x = EDGES.told(TWO);
        x.let(0, 1, 1, 0);
        due("on its last DAY", x.teach(0), -2);
        x.go(1);
        due("behind it", x.teach(0), 3 * (19800 - 9900));
    }

    private static void teachBounds() {
        EDGES.sentence(12, "by half of what is between them, cut (one that moves nothing is a LESSON, too)");
        HandsLet x = EDGES.told("man a 1 50 0 0;man b 0 51 0 0;law turn 3;");
        due("moves nothing", x.teach(0), 0);
        due("is a LESSON", x.count(13), 1);
        x.let(0, 1, 9, 0);
        x.end(0);
        due("3 below and 3 above", x.hand(0, 0) * 100000 + x.hand(0, 1), 99750003);
        due("half of 3 is 1", x.teach(0), 4);
        due("half of 2 is 1", x.teach(0), 2);
        due("half of 1 is 0", x.teach(0), 2);
        due("below", x.hand(0, 0), 999);
        due("above", x.hand(0, 1), 50001);
        due("all of them", x.count(13), 6);
        HandsLet most = EDGES.told(TWO + "wear 100;");
        most.let(0, 1, 1, 0);
        most.end(0);
        due("the most", most.teach(0), 3 * 49500);
        HandsLet six = EDGES.told("man a 8 8 8 0;man b 8 8 8 0;man c 8 8 8 0;man d 8 8 8 0;man e 8 8 8 0;"
                + "man f 0 0 0 0;wear 100;");
        for (int hand = 0; hand < 5; hand++) {
            six.let(hand, 5, 1, 0);
            six.end(hand);
        }
        due("the fifth", six.teach(4), 12000);
        due("its WEIGHT", six.hand(4, 2), 4000);
        due("none but the fifth", six.hand(0, 0) + six.hand(1, 2) + six.hand(3, 2) + six.hand(5, 0), 0);
    }
}
