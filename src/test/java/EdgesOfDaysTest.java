/** Boundary cases of promises 13 to 26: DAYS, what comes, who is like whom, bids, rings, lessons, rests, odds. */
public final class EdgesOfDaysTest {
    private static final Edges EDGES = new Edges();
    private static final String TWO = Edges.TWO;
    private static final String SIX = Edges.SIX;
    private static final int[] FAR = Edges.FAR;

    public static void main(String[] args) {
        goRefused();
        goFar();
        goLeases();
        goDays();
        goBank();
        goFines();
        aheadRefused();
        aheadBounds();
        freeBounds();
        apartBounds();
        likeBounds();
        couldRefused();
        couldBounds();
        matchRefused();
        matchNone();
        matchTies();
        auctionRefused();
        auctionBids();
        auctionPays();
        putOffBounds();
        ringRefused();
        ringBounds();
        lessonsBounds();
        restsRefused();
        restsBounds();
        restRefused();
        quietRefused();
        quietBounds();
        EDGES.finish(13, 26);
    }

    private static void due(String what, long got, long want) {
        EDGES.due(what, got, want);
    }

    private static void goRefused() {
        EDGES.sentence(13, "So many DAYS (0 .. 200) go by: which one it is");
        HandsLet x = EDGES.told(TWO);
        due("0", x.go(0), 0);
        due("1", x.go(1), 1);
        due("200", x.go(200), 201);
        due("0 again", x.go(0), 201);
        EDGES.sentence(13, "NONE, and none does: no such number");
        for (int n : new int[] {-1, 201, Integer.MIN_VALUE, Integer.MAX_VALUE, Integer.MAX_VALUE - 1}) {
            EDGES.idle("go(" + n + ")", Edges::busy, y -> y.go(n), -1);
        }
        EDGES.idle("go(0)", Edges::busy, y -> y.go(0), 2);
    }

    private static HandsLet onDay(int day) {
        HandsLet x = EDGES.told(TWO);
        while (x.count(4) < day) {
            x.go(Math.min(200, day - x.count(4)));
        }
        return x;
    }

    private static void goFar() {
        EDGES.sentence(13, "NONE, and none does: no such number, behind 9800");
        HandsLet x = onDay(9799);
        due("two from 9799", x.go(2), -1);
        due("200 from 9799", x.go(200), -1);
        due("none did", x.count(4), 9799);
        due("none of none", x.go(0), 9799);
        due("up to 9800", x.go(1), 9800);
        due("behind it", x.go(1), -1);
        due("200 behind it", x.go(200), -1);
        due("none", x.go(0), 9800);
        due("none does", x.count(4), 9800);
        HandsLet y = onDay(9600);
        due("200 up to 9800", y.go(200), 9800);
        HandsLet z = onDay(9601);
        z.let(0, 1, 99, 0);
        due("200 from 9601", z.go(200), -1);
        due("the HAND is LET yet", z.free(0), 99);
        due("and can be undone", z.count(13), 1);
        due("199", z.go(199), 9800);
        due("an IMAGE of it", z.keep(), 9800);
        due("ahead of it", z.ahead(200, 0, 1), 100);
        due("tried beyond it", z.tried(1, 0, 200), 200);
        due("drawn beyond it", z.chance(1, 99, 0), 10);
        due("LET on it", z.let(1, 0, 99, 0), 100);
        due("a text anew", z.text(0), 0);
        due("from DAY 0 on", z.go(200), 200);
    }

    private static void goLeases() {
        EDGES.sentence(13, "if the HAND isn't LET and the TENANT's PURSE is no less than RENT, it is LET");
        HandsLet even = EDGES.told("man a 0 0 0 0;man b 0 0 0 5;man c 0 0 0 4;lease a b 0 1 5;lease b c 0 1 5;");
        even.go(1);
        due("5 of 5", even.hand(0, 5), 1);
        due("5 of 4", even.hand(1, 5), 0);
        EDGES.sentence(13, "else it is REFUSED");
        due("one", even.count(10), 1);
        HandsLet ten = EDGES.told(TWO + "lease a b 3 1 1;".repeat(10));
        ten.go(3);
        due("none ahead of its DAY", ten.count(10), 0);
        ten.go(1);
        due("nine of ten", ten.count(10), 9);
        due("one PRICE", ten.man(1, 3), 99);
        HandsLet last = EDGES.told(TWO + "lease a b 0 3 1;lease a b 2 3 1;lease a b 3 3 1;");
        last.go(3);
        due("REFUSED on its last DAY", last.count(10), 1);
        last.go(1);
        due("LET on the DAY behind it", last.hand(0, 4), 2);
        HandsLet law = EDGES.told("man a 0 0 0 0;man b 0 0 0 999;lease a b 0 1 1;lease a b 1 1 1;"
                + "law rent (day=0)*1000+(day>0)*(0-1);");
        law.go(1);
        due("999 at most", law.man(1, 3), 0);
        law.go(1);
        due("0 at least", law.hand(0, 5), 2);
        due("0 paid", law.man(0, 3), 999);
    }

    private static void goDays() {
        EDGES.sentence(13, "each HAND that is LET is so for 1 DAY less; for none: it comes back");
        HandsLet x = EDGES.told("man a 0 0 0 9;man b 10 0 0 9;lease a b 0 1 0;lease b a 0 99 0;");
        x.go(1);
        due("1 DAY", x.hand(0, 3), -2);
        due("worn", x.hand(0, 0), 2000);
        due("98 of 99", x.hand(1, 4), 98);
        x.go(97);
        due("1 of 99", x.hand(1, 4), 1);
        due("not worn yet", x.hand(1, 0), 10000);
        x.go(1);
        due("none of 99", x.hand(1, 3), -2);
        due("worn towards what a writes, not a's HAND", x.hand(1, 0), 8000);
        EDGES.sentence(13, "from a DAY 0 .. 99 for DAYS 1 .. 99");
        HandsLet ends = EDGES.told("man a 0 0 0 9;man b 10 0 0 9;lease a b 0 1 0;lease b a 99 99 0;letter b b 0;"
                + "letter b b 99;");
        ends.go(99);
        due("DAY 0", ends.hand(0, 5) * 10 + ends.letter(0, 3), 11);
        due("not DAY 99 yet", ends.count(5) * 10 + ends.letter(1, 3), 0);
        ends.go(1);
        due("DAY 99", ends.count(5) * 10 + ends.letter(1, 3), 12);
        ends.go(97);
        due("its last DAY", ends.hand(1, 4), 1);
        ends.go(1);
        due("DAY 198", ends.hand(1, 5), 1);
        ends.go(200);
        due("nothing comes again", ends.hand(0, 5) + ends.hand(1, 5) + ends.count(10), 2);
    }

    private static int foundBy(int watch) {
        HandsLet x = EDGES.told(TWO + "letter a b 0;letter a b 1;letter a b 2;seed 1;watch " + watch + ";");
        x.go(3);
        return x.letter(0, 5) * 100 + x.letter(1, 5) * 10 + x.letter(2, 5);
    }

    /** From seed 1 on the numbers are 16838, 5758, 10113: 38, 58, 13 of a hundred. */
    private static void goBank() {
        EDGES.sentence(13, "a number modulo 100 (no number, if watch is 0 or 100) below watch: the bank looks");
        due("0: never", foundBy(0), 0);
        due("13 isn't below 13", foundBy(13), 0);
        due("13 is below 14", foundBy(14), 1);
        due("38 isn't below 38", foundBy(38), 1);
        due("38 is below 39", foundBy(39), 101);
        due("58 isn't below 58", foundBy(58), 101);
        due("58 is below 59", foundBy(59), 111);
        due("99", foundBy(99), 111);
        due("100: always", foundBy(100), 111);
        EDGES.sentence(13, "Numbers are the last one (at first the seed) times 1103515245 and 12345, without "
                + "what is above 31 bits, by 65536");
        long last = 99999;
        StringBuilder letters = new StringBuilder(TWO);
        for (int day = 0; day < 12; day++) {
            letters.append("letter a b ").append(day).append(';');
        }
        HandsLet x = EDGES.told(letters + "seed 99999;watch 50;");
        x.go(12);
        for (int day = 0; day < 12; day++) {
            last = Math.floorMod(last * 1103515245L + 12345L, 2147483648L);
            due("the number of DAY " + day, x.letter(day, 5), last / 65536 % 100 < 50 ? 1 : 0);
        }
        for (int watch : new int[] {1, 68, 69}) {
            HandsLet zero = EDGES.told(TWO + "letter a b 0;letter a b 1;seed 0;watch " + watch + ";");
            zero.go(2);
            due("from seed 0 on: 0, then 21468", zero.letter(0, 5) * 10 + zero.letter(1, 5), watch < 69 ? 10 : 11);
        }
        int seed99 = 0;
        while ((seed99 * 1103515245L + 12345L & 0x7FFFFFFFL) / 65536 % 100 != 99) {
            seed99++;
        }
        for (int watch : new int[] {99, 100}) {
            HandsLet most = EDGES.told(TWO + "letter a b 0;seed " + seed99 + ";watch " + watch + ";");
            most.go(1);
            due("99 isn't below 99", most.letter(0, 5), watch - 99);
        }
        HandsLet untold = EDGES.told(TWO + "letter a b 0;letter a b 1;watch 1;");
        untold.go(2);
        due("the seed is 0 without", untold.letter(0, 5) * 10 + untold.letter(1, 5), 10);
        EDGES.sentence(13, "if LETTERS were FORGED on this DAY");
        HandsLet good = EDGES.told(TWO + "letter b b 0;letter a b 1;seed 1;watch 39;");
        good.go(2);
        due("no number for GOOD ones", good.letter(1, 5), 1);
        HandsLet none = EDGES.told(TWO + "letter a b 50;seed 1;watch 39;");
        none.go(51);
        due("no number without LETTERS", none.letter(0, 5), 1);
    }

    private static int fined(int purse, String law) {
        HandsLet x = EDGES.told("man a 0 0 0 " + purse + ";man b 0 0 0 0;letter a b 0;watch 100;" + law);
        x.go(1);
        return x.man(0, 3);
    }

    private static void goFines() {
        EDGES.sentence(13, "PURSE of who wrote it is less by E of fine (0 .. 999;"
                + " 10 without, with an ERROR), 0 at least");
        due("without", fined(999, ""), 989);
        due("an ERROR", fined(999, "law fine 1/0;"), 989);
        due("below 0", fined(500, "law fine 0-1;"), 500);
        due("0", fined(500, "law fine 0;"), 500);
        due("1", fined(500, "law fine 1;"), 499);
        due("998", fined(999, "law fine 998;"), 1);
        due("999", fined(999, "law fine 999;"), 0);
        due("its PRICE is 0", fined(500, "law fine price*9+day;"), 500);
        due("just all", fined(10, ""), 0);
        due("one more than all", fined(9, ""), 0);
        due("of nothing", fined(0, ""), 0);
        HandsLet rich = EDGES.told("man a 0 0 0 999;man b 0 0 0 999;letter a b 1;watch 100;law rent 999;"
                + "law fine 9999;");
        rich.let(0, 1, 1, 0);
        rich.go(2);
        due("999 at most of 1998", rich.man(0, 3), 999);
    }

    private static void aheadRefused() {
        EDGES.sentence(14, "NONE: no such ones");
        for (int what = 0; what <= 4; what++) {
            int w = what;
            EDGES.idle("n -1", Edges::busy, x -> x.ahead(-1, w, 0), -1);
            EDGES.idle("n 201", Edges::busy, x -> x.ahead(201, w, 0), -1);
        }
        for (int what : new int[] {0, 3}) {
            EDGES.idle("i -1", Edges::busy, x -> x.ahead(1, what, -1), -1);
            EDGES.idle("i 3 of three", Edges::busy, x -> x.ahead(1, what, 3), -1);
            for (int far : FAR) {
                EDGES.idle("i " + far, Edges::busy, x -> x.ahead(1, what, far), -1);
            }
        }
        EDGES.idle("what -1", Edges::busy, x -> x.ahead(1, -1, 0), -1);
        EDGES.idle("what 5", Edges::busy, x -> x.ahead(1, 5, 0), -1);
        for (int far : FAR) {
            EDGES.idle("n " + far, Edges::busy, x -> x.ahead(far, 1, 0), -1);
            EDGES.idle("what " + far, Edges::busy, x -> x.ahead(1, far, 0), -1);
        }
        EDGES.sentence(14, "(of 1, 2, 4 i isn't looked at)");
        HandsLet x = EDGES.told(TWO + "letter a b 0;letter a b 0;watch 50;");
        for (int i : new int[] {-1, 0, 2, 6, Integer.MIN_VALUE, Integer.MAX_VALUE}) {
            due("FORGED", x.ahead(1, 1, i), 2);
            due("CLASHES", x.ahead(1, 2, i), 1);
            due("FOUND", x.ahead(1, 4, i), 2);
        }
    }

    private static void aheadBounds() {
        EDGES.sentence(14, "AHEAD (n 0 .. 200)");
        HandsLet x = EDGES.told("man a 0 0 0 100;man b 10 0 0 100;lease a b 0 1 5;letter a b 0;letter a b 99;"
                + "watch 50;");
        due("0: now", x.ahead(0, 0, 1), 100);
        due("0: none FORGED", x.ahead(0, 1, 0), 0);
        due("0: SLANT now", x.ahead(0, 3, 0), 0);
        due("1", x.ahead(1, 0, 1), 95);
        due("1: SLANT", x.ahead(1, 3, 0), 2000);
        due("99", x.ahead(99, 1, 0), 1);
        due("100", x.ahead(100, 1, 0), 2);
        due("200", x.ahead(200, 4, 0), 2);
        due("200: PURSE", x.ahead(200, 0, 0), 85);
        HandsLet more = EDGES.told("man a 0 0 0 100;man b 10 0 0 100;man c 20 30 40 0;lease c b 3 1 0;"
                + "letter a b 0;letter a b 0;"
                + "letter a b 2;letter b b 2;watch 100;");
        more.go(1);
        EDGES.sentence(14, "PURSE of a PERSON then, FORGED more, CLASHES more, SLANT of a HAND then "
                + "(thousandths), FOUND more");
        due("two FORGED by now", more.ahead(1, 1, 0), 0);
        due("one more", more.ahead(2, 1, 0), 1);
        due("one CLASHES by now", more.ahead(1, 2, 0), 0);
        due("one CLASHES more", more.ahead(2, 2, 0), 1);
        due("two FOUND by now", more.ahead(1, 4, 0), 0);
        due("one FOUND more", more.ahead(2, 4, 0), 1);
        due("SLANT of the last HAND", more.ahead(2, 3, 2), 20000);
        due("then worn", more.ahead(3, 3, 2), 18000);
        EDGES.sentence(14, "without numbers: the bank looks, if watch is 50 at least");
        for (int watch : new int[] {0, 1, 49, 50, 51, 100}) {
            HandsLet y = EDGES.told(TWO + "letter a b 0;seed 1;watch " + watch + ";");
            due("watch " + watch, y.ahead(1, 4, 0), watch >= 50 ? 1 : 0);
        }
        EDGES.idle("ahead leaves all, the numbers too", Edges::busy, y -> y.ahead(200, 1, 0), 3);
    }

    private static void freeBounds() {
        EDGES.sentence(15, "in how many DAYS as it goes, 199 at most, it isn't LET (0: now)");
        HandsLet x = EDGES.told(TWO + "lease a b 3 9 0;");
        due("now", x.free(0), 0);
        x.let(0, 1, 1, 0);
        due("1", x.free(0), 1);
        x.undo();
        x.let(0, 1, 3, 0);
        due("3, though it is LET again on that DAY", x.free(0), 3);
        x.go(3);
        due("now it isn't", x.free(0), 0);
        x.go(1);
        due("LET again", x.free(0), 8);
        x.end(0);
        due("ended", x.free(0), 0);
        x.let(1, 0, 99, 0);
        EDGES.sentence(15, "-2: not by then");
        due("99 is the most there can be, so it never is", x.free(1), 99);
        EDGES.idle("free leaves all", Edges::busy, y -> y.free(1), 3);
        EDGES.sentence(15, "NONE: no such HAND");
        due("the last of six", EDGES.told(SIX).free(5), 0);
        due("hand 6 of six", EDGES.told(SIX).free(6), -1);
        for (int hand : new int[] {-1, 2, 6, Integer.MIN_VALUE, Integer.MAX_VALUE}) {
            due("hand " + hand, x.free(hand), -1);
        }
    }

    private static void apartBounds() {
        EDGES.sentence(16, "how far the three traits are from a thousand times his, in sum");
        HandsLet x = EDGES.told(TWO + "wear 100;");
        due("the most", x.apart(0, 1), 297000);
        due("the other way", x.apart(1, 0), 297000);
        due("none", x.apart(1, 1), 0);
        HandsLet mixed = EDGES.told("man a 0 99 0 0;man b 99 0 99 0;");
        due("up and down", mixed.apart(0, 1), 297000);
        x.let(0, 1, 1, 0);
        due("LET", x.apart(0, 1), 297000);
        x.end(0);
        due("as the TENANT", x.apart(0, 1), 0);
        due("and far from its owner", x.apart(0, 0), 297000);
        EDGES.sentence(16, "NONE: no such ones");
        due("the last of six", EDGES.told(SIX).apart(5, 5), 0);
        due("6 of six", EDGES.told(SIX).apart(6, 0), -1);
        due("man 6 of six", EDGES.told(SIX).apart(0, 6), -1);
        for (int one : new int[] {-1, 2, 6, Integer.MIN_VALUE, Integer.MAX_VALUE}) {
            due("hand " + one, x.apart(one, 0), -1);
            due("man " + one, x.apart(0, one), -1);
            due("both " + one, x.apart(one, one), -1);
        }
    }

    private static void likeBounds() {
        EDGES.sentence(17, "the PERSON from whom it is least APART, the first of several");
        HandsLet x = EDGES.told("man a 5 5 5 0;man b 5 5 5 0;man c 5 5 5 0;");
        due("all alike", x.like(2), 0);
        due("alone", EDGES.told("man a 5 5 5 0;").like(0), 0);
        HandsLet half = EDGES.told("man a 0 0 0 0;man b 10 0 0 0;wear 50;");
        half.let(1, 0, 1, 0);
        half.end(1);
        due("5000 from both", half.like(1), 0);
        HandsLet less = EDGES.told("man a 0 0 0 0;man b 10 0 0 0;wear 49;");
        less.let(1, 0, 1, 0);
        less.end(1);
        due("5100 and 4900", less.like(1), 1);
        due("the last of six", EDGES.told(SIX).like(5), 5);
        EDGES.sentence(17, "NONE: no such HAND");
        due("hand 6 of six", EDGES.told(SIX).like(6), -1);
        for (int hand : new int[] {-1, 3, 6, Integer.MIN_VALUE, Integer.MAX_VALUE}) {
            due("hand " + hand, x.like(hand), -1);
        }
    }

    private static void couldRefused() {
        EDGES.sentence(18, "-2: it isn't written");
        HandsLet x = EDGES.told(TWO + "letter a a 1;");
        due("DAY 0", x.could(0, 0), -2);
        due("DAY 0, the most", x.could(0, 999999), -2);
        x.go(1);
        due("DAY 1, ahead of it", x.could(0, 0), -2);
        x.go(1);
        due("written", x.could(0, 0), 1);
        EDGES.sentence(18, "NONE: no such ones");
        HandsLet unwritten = EDGES.told(TWO + "letter a a 1;");
        for (HandsLet y : new HandsLet[] {x, unwritten}) {
            due("much -1", y.could(0, -1), -1);
            due("much 1000000", y.could(0, 1000000), -1);
            due("letter -1", y.could(-1, 0), -1);
            due("letter 1 of one", y.could(1, 0), -1);
            due("letter 12", y.could(12, 0), -1);
            for (int far : new int[] {Integer.MIN_VALUE, Integer.MAX_VALUE}) {
                due("letter " + far, y.could(far, 0), -1);
                due("much " + far, y.could(0, far), -1);
            }
        }
    }

    private static void couldBounds() {
        EDGES.sentence(18, "COULD (much 0 .. 999999; bits)");
        HandsLet x = EDGES.told(SIX + "letter a a 0;letter f a 0;");
        x.go(1);
        due("0", x.could(0, 0), 1);
        due("999", x.could(0, 999), 1);
        due("1000", x.could(0, 1000), 3);
        due("4999", x.could(0, 4999), 31);
        due("5000", x.could(0, 5000), 63);
        due("999999", x.could(0, 999999), 63);
        due("half of 5000: nobody", x.could(1, 499), 0);
        due("2500: two of them", x.could(1, 500), 12);
        EDGES.sentence(18, "as it was written");
        HandsLet worn = EDGES.told(TWO + "letter a a 0;wear 100;");
        worn.go(1);
        worn.let(0, 1, 1, 0);
        worn.end(0);
        due("not as the HAND is now", worn.could(0, 0), 1);
    }

    private static void matchRefused() {
        EDGES.sentence(19, "NONE for another what");
        for (int what : new int[] {-1, 8, Integer.MIN_VALUE, Integer.MAX_VALUE}) {
            due("match(" + what + ")", EDGES.told(SIX).match(what), -1);
            due("match(" + what + ") of none", new HandsLet().match(what), -1);
        }
        EDGES.sentence(19, "(-2: none, there are not so many)");
        HandsLet x = EDGES.told(TWO);
        due("the last of two", x.match(1), 0);
        for (int what = 2; what <= 5; what++) {
            due("match(" + what + ") of two", x.match(what), -2);
        }
        HandsLet six = EDGES.told(SIX);
        due("the last of six", six.match(5), 4);
        due("all six", six.match(6), 6);
        EDGES.idle("match leaves all", Edges::busy, y -> y.match(6), 2);
    }

    private static void matchNone() {
        EDGES.sentence(19, "6: how many have one, 7: APART in sum (0, if none has)");
        HandsLet none = EDGES.told(SIX);
        for (int hand = 0; hand < 6; hand++) {
            none.let(hand, (hand + 1) % 6, 9, 0);
        }
        due("all LET: how many", none.match(6), 0);
        due("all LET: in sum", none.match(7), 0);
        due("all LET: the first", none.match(0), -2);
        HandsLet alone = EDGES.told("man a 5 5 5 5;");
        due("alone: how many", alone.match(6), 0);
        due("alone: in sum", alone.match(7), 0);
        due("alone: his own is none", alone.match(0), -2);
        HandsLet one = EDGES.told(TWO);
        one.let(0, 1, 9, 0);
        due("one isn't LET: a has it", one.match(0), 1);
        due("b has none", one.match(1), -2);
        due("one", one.match(6), 1);
        due("the most APART", one.match(7), 297000);
        HandsLet alike = EDGES.told("man a 5 5 5 5;man b 5 5 5 5;");
        due("two: how many", alike.match(6), 2);
        due("two alike: in sum", alike.match(7), 0);
    }

    private static String matched(HandsLet x) {
        StringBuilder all = new StringBuilder();
        for (int what = 0; what < x.count(0); what++) {
            all.append(x.match(what)).append(' ');
        }
        return all.toString();
    }

    private static void matchTies() {
        EDGES.sentence(19, "so that as many as may be have one, then so that APART of these in sum is least");
        HandsLet far = EDGES.told("man a 0 0 0 9;man b 0 0 0 9;man c 99 99 99 9;");
        due("three, though two alone are nearer", far.match(6), 3);
        due("in sum", far.match(7), 2 * 297000);
        far.let(2, 0, 9, 0);
        due("two", far.match(6), 2);
        due("those near", far.match(7), 0);
        HandsLet line = EDGES.told("man a 0 0 0 9;man b 50 0 0 9;man c 51 0 0 9;man d 1 0 0 9;");
        due("by each one's own APART", matched(line).equals("3 2 1 0 ") ? 1 : 0, 1);
        due("in sum", line.match(7), 4000);
        EDGES.sentence(19, "of several the first by PEOPLE (HANDS by numbers, none is last)");
        HandsLet alike = EDGES.told("man a 5 0 0 9;man b 5 0 0 9;man c 5 0 0 9;man d 5 0 0 9;man e 5 0 0 9;"
                + "man f 5 0 0 9;");
        due("six alike", matched(alike).equals("1 0 3 2 5 4 ") ? 1 : 0, 1);
        alike.let(5, 0, 9, 0);
        due("five HANDS, e's own is left for f", matched(alike).equals("1 0 3 2 -2 4 ") ? 1 : 0, 1);
        alike.let(0, 1, 9, 0);
        alike.let(1, 0, 9, 0);
        alike.let(2, 0, 9, 0);
        due("two HANDS for the first two", matched(alike).equals("3 4 -2 -2 -2 -2 ") ? 1 : 0, 1);
        alike.let(3, 0, 9, 0);
        due("one HAND for the first", matched(alike).equals("4 -2 -2 -2 -2 -2 ") ? 1 : 0, 1);
    }

    private static void auctionRefused() {
        EDGES.sentence(20, "-2: there is no other PERSON");
        HandsLet alone = EDGES.told("man a 5 5 5 5;");
        due("who", alone.auction(0, 0), -2);
        due("what", alone.auction(0, 1), -2);
        EDGES.sentence(20, "NONE: no such ones");
        due("alone, what 2", alone.auction(0, 2), -1);
        due("alone, what -1", alone.auction(0, -1), -1);
        due("alone, hand 1", alone.auction(1, 0), -1);
        HandsLet x = EDGES.told(TWO);
        due("what -1", x.auction(0, -1), -1);
        due("what 2", x.auction(0, 2), -1);
        due("hand -1", x.auction(-1, 0), -1);
        due("hand 2", x.auction(2, 0), -1);
        due("of none", new HandsLet().auction(0, 0), -1);
        due("the last of six, all bid 9", EDGES.told(SIX).auction(5, 0), 0);
        due("hand 6 of six", EDGES.told(SIX).auction(6, 0), -1);
        for (int far : FAR) {
            due("what " + far, x.auction(0, far), -1);
            due("hand " + far, x.auction(far, 0), -1);
        }
    }

    /** What b bids, for c bids more. */
    private static int bid(String b, String law) {
        HandsLet x = EDGES.told("man a 0 0 0 0;man b " + b + ";man c 0 0 0 999;" + law);
        if (!law.isEmpty()) {
            x.let(0, 2, 1, 0);
            x.end(0);
        }
        due("c has it", x.auction(0, 0), 2);
        return x.auction(0, 1);
    }

    private static void auctionBids() {
        EDGES.sentence(20, "bids 99 less APART by 1000, cut, no more than his PURSE, 0 at least");
        due("1 APART", bid("1 0 0 999", ""), 98);
        due("98 APART", bid("98 0 0 999", ""), 1);
        due("99 APART", bid("99 0 0 999", ""), 0);
        due("100 APART", bid("99 1 0 999", ""), 0);
        due("297 APART", bid("99 99 99 999", ""), 0);
        due("PURSE 97 of 98", bid("1 0 0 97", ""), 97);
        due("PURSE 98 of 98", bid("1 0 0 98", ""), 98);
        due("PURSE 99 of 98", bid("1 0 0 99", ""), 98);
        due("PURSE 0", bid("1 0 0 0", ""), 0);
        HandsLet cut = EDGES.told("man a 0 0 0 0;man b 2 0 0 999;man c 1 0 0 999;law turn 1;");
        cut.let(0, 2, 1, 0);
        cut.end(0);
        due("1999 by 1000 is 1", cut.auction(0, 1), 98);
        due("999 by 1000 is 0", cut.auction(0, 0), 2);
        HandsLet none = EDGES.told("man a 0 0 0 9;man b 0 0 0 99;man c 0 0 0 100;");
        due("99 is the most: alike, the first", none.auction(0, 0), 1);
        due("pays the same", none.auction(0, 1), 99);
    }

    private static void auctionPays() {
        EDGES.sentence(20, "who bids most, the first of several (of all that bid 0 as well)");
        HandsLet zero = EDGES.told("man a 0 0 0 9;man b 1 0 0 0;man c 1 0 0 0;man d 99 99 99 9;");
        due("all bid 0", zero.auction(0, 0), 1);
        due("of the second HAND", zero.auction(1, 0), 0);
        HandsLet alike = EDGES.told("man a 0 0 0 9;man b 5 0 0 50;man c 5 0 0 50;man d 5 0 0 50;");
        due("three alike", alike.auction(0, 0), 1);
        EDGES.sentence(20, "(the same, if they bid alike; 0, if there is no other one)");
        due("the same", alike.auction(0, 1), 50);
        due("all bid 0", zero.auction(0, 1), 0);
        due("no other one", EDGES.told("man a 0 0 0 9;man b 0 0 0 99;").auction(0, 1), 0);
        due("who", EDGES.told("man a 0 0 0 9;man b 0 0 0 99;").auction(0, 0), 1);
        HandsLet second = EDGES.told("man a 0 0 0 9;man b 0 0 0 10;man c 0 0 0 30;man d 0 0 0 20;");
        due("the last but one", second.auction(0, 0), 2);
        due("what bids most of the others", second.auction(0, 1), 20);
        EDGES.sentence(20, "A HAND that is LET is no other than one that isn't");
        second.let(0, 3, 9, 0);
        due("LET", second.auction(0, 0), 2);
        due("LET, what", second.auction(0, 1), 20);
    }

    private static void putOffBounds() {
        EDGES.sentence(21, "LETTERS of this DAY or later (by the DAY told)");
        HandsLet x = EDGES.told(TWO + "letter a a 3;letter b a 3;");
        due("later", x.putOff(), 1);
        x.go(3);
        due("of this DAY", x.putOff(), 1);
        x.go(1);
        due("of an earlier one", x.putOff(), 0);
        HandsLet past = EDGES.told(TWO + "letter a a 3;letter b a 3;letter a a 4;");
        due("3 3 4", past.putOff(), 2);
        past.go(4);
        due("those put off don't count any more", past.putOff(), 0);
        EDGES.sentence(21, "beyond DAY 99 too, so that no two in one HAND are on one DAY");
        HandsLet full = EDGES.told(TWO + "letter a b 99;".repeat(12));
        due("twelve on DAY 99", full.putOff(), 66);
        full.go(99);
        due("twelve on this DAY 99", full.putOff(), 66);
        full.go(1);
        due("none behind it", full.putOff(), 0);
        HandsLet two = EDGES.told(TWO + "letter a b 98;letter a b 98;letter a b 99;letter b b 99;");
        due("98 98 99 99 are 98 99 100 101", two.putOff(), 4);
        HandsLet hands = EDGES.told(TWO + "letter a a 5;letter a b 5;letter b a 6;letter b b 6;");
        due("no two in one HAND", hands.putOff(), 0);
        HandsLet each = EDGES.told(TWO + "letter a a 5;letter a b 5;letter b a 5;letter b b 5;");
        due("two in each", each.putOff(), 2);
        due("none told", EDGES.told(TWO).putOff(), 0);
        HandsLet third = EDGES.told(Edges.SIX + "letter a a 5;letter a b 5;letter a f 5;letter b f 5;letter c f 5;");
        due("three in the last HAND, one in others", third.putOff(), 3);
    }

    private static void ringRefused() {
        EDGES.sentence(22, "NONE: no such ones");
        HandsLet x = EDGES.told(TWO);
        HandsLet six = EDGES.told(SIX);
        due("what -1", x.ring(0, -1), -1);
        due("what 3", x.ring(0, 3), -1);
        due("man -1", x.ring(-1, 0), -1);
        due("man 2 of two", x.ring(2, 0), -1);
        due("man 6 of six", six.ring(6, 0), -1);
        due("the last of six", six.ring(5, 2), 32);
        for (int far : FAR) {
            due("what " + far, x.ring(0, far), -1);
            due("man " + far, x.ring(far, 0), -1);
        }
    }

    private static void ring(HandsLet x, int man, int comes, int steps, int bits) {
        due("ring of " + man, x.ring(man, 0), comes);
        due("steps of " + man, x.ring(man, 1), steps);
        due("people of " + man, x.ring(man, 2), bits);
    }

    private static void ringBounds() {
        EDGES.sentence(22, "it ends with one whose HAND isn't LET (0 steps, if it is his)");
        HandsLet x = EDGES.told(SIX);
        ring(x, 3, 0, 0, 8);
        for (int hand = 0; hand < 5; hand++) {
            x.let(hand, hand + 1, 9, 0);
        }
        ring(x, 0, 0, 5, 63);
        ring(x, 4, 0, 1, 48);
        ring(x, 5, 0, 0, 32);
        EDGES.sentence(22, "or comes back to one it was with (that step is counted)");
        x.let(5, 0, 9, 0);
        for (int man = 0; man < 6; man++) {
            ring(x, man, 1, 6, 63);
        }
        x.end(5);
        x.let(5, 4, 9, 0);
        ring(x, 0, 2, 6, 63);
        ring(x, 3, 2, 3, 56);
        ring(x, 4, 1, 2, 48);
        ring(x, 5, 1, 2, 48);
        HandsLet two = EDGES.told(TWO);
        two.let(0, 1, 1, 0);
        two.let(1, 0, 1, 0);
        ring(two, 0, 1, 2, 3);
        two.go(1);
        ring(two, 0, 0, 0, 1);
    }

    private static int lessonsBy(int a, int b, String law) {
        HandsLet x = EDGES.told("man a 0 " + a + " 0 0;man b 0 " + b + " 0 0;" + law);
        x.let(0, 1, 1, 0);
        x.end(0);
        return x.lessons(0);
    }

    private static void lessonsBounds() {
        EDGES.sentence(23, "the fewest, so that none is 1000 or more from it");
        due("0 from it", lessonsBy(7, 7, ""), 0);
        due("999", lessonsBy(0, 1, "law turn 999;"), 0);
        due("1000", lessonsBy(0, 1, "law turn 1000;"), 1);
        due("1998: 999", lessonsBy(0, 2, "law turn 999;"), 1);
        due("2000: 1000", lessonsBy(0, 2, "law turn 1000;"), 2);
        due("3997: 1999, 1000, 500", lessonsBy(0, 7, "law turn 571;"), 3);
        due("the most: 99000 to 774", lessonsBy(0, 99, "wear 100;"), 7);
        due("the most, from above", lessonsBy(99, 0, "wear 100;"), 7);
        HandsLet cut = EDGES.told("man a 0 0 0 0;man b 29 0 0 0;law turn 69;");
        cut.let(0, 1, 1, 0);
        cut.end(0);
        due("2001: 1001, 501", cut.hand(0, 0) * 10 + cut.lessons(0), 20012);
        HandsLet one = EDGES.told("man a 0 0 0 0;man b 1 0 2 0;wear 100;");
        one.let(0, 1, 1, 0);
        one.end(0);
        due("the farthest of three", one.lessons(0), 2);
        HandsLet fifth = EDGES.told("man a 8 8 8 0;man b 8 8 8 0;man c 8 8 8 0;man d 9 9 9 0;man e 9 9 9 0;"
                + "man f 8 8 8 0;wear 100;");
        fifth.let(4, 5, 1, 0);
        fifth.end(4);
        due("the fifth", fifth.lessons(4), 1);
        due("the fourth", fifth.lessons(3), 0);
        due("the last", fifth.lessons(5), 0);
        HandsLet above = EDGES.told("man a 99 0 0 0;man b 98 0 0 0;law turn 999;");
        above.let(0, 1, 1, 0);
        above.end(0);
        due("999 from 99000", above.lessons(0), 0);
        EDGES.sentence(23, "NONE: no such HAND");
        due("the last of six", EDGES.told(SIX).lessons(5), 0);
        due("hand 6 of six", EDGES.told(SIX).lessons(6), -1);
        for (int hand : new int[] {-1, 2, 6, Integer.MIN_VALUE, Integer.MAX_VALUE}) {
            due("hand " + hand, one.lessons(hand), -1);
        }
    }

    private static void restsRefused() {
        EDGES.sentence(24, "NONE: no such PEOPLE, alike");
        HandsLet x = EDGES.told(TWO);
        due("alike", x.rests(0, 0), -1);
        due("alike, the last", x.rests(1, 1), -1);
        due("-1", x.rests(-1, 0), -1);
        due("other -1", x.rests(0, -1), -1);
        due("2 of two", x.rests(2, 0), -1);
        due("other 2 of two", x.rests(0, 2), -1);
        due("alike and no such", x.rests(2, 2), -1);
        due("6 of six", EDGES.told(SIX).rests(6, 0), -1);
        for (int far : FAR) {
            due("one " + far, x.rests(far, 0), -1);
            due("other " + far, x.rests(0, far), -1);
            due("both " + far, x.rests(far, far), -1);
        }
    }

    /** All RESTS of the two, each as rest() tells it. */
    private static void rests(HandsLet x, int... each) {
        due("how many", x.rests(0, 1), each.length);
        for (int k = 0; k < each.length; k++) {
            due("number " + k, x.rest(0, 1, k), each[k]);
        }
        due("no more", x.rest(0, 1, each.length), -2);
    }

    private static HandsLet pair(int a, int b, int slant) {
        return EDGES.told("man a 0 0 0 " + a + ";man b " + slant + " 0 0 " + b + ";");
    }

    private static void restsBounds() {
        EDGES.sentence(24, "it has the other one's PURSE by 10, cut, the other one 1");
        rests(pair(0, 0, 0), 0);
        rests(pair(29, 29, 0), 0, 1, 10);
        rests(pair(19, 19, 0), 0);
        rests(pair(20, 19, 0), 0, 1);
        rests(pair(19, 20, 0), 0, 10);
        rests(pair(30, 30, 0), 1, 10);
        rests(pair(29, 30, 0), 1, 10);
        rests(pair(19, 30, 0), 10);
        rests(pair(30, 19, 0), 1);
        EDGES.sentence(24, "each has APART of its HAND and the other one by 20000, cut");
        rests(pair(0, 0, 19), 0);
        rests(pair(0, 0, 20), 0, 11);
        rests(pair(0, 0, 39), 0, 11);
        rests(pair(0, 0, 40), 0, 11);
        rests(pair(20, 20, 20), 0, 1, 10, 11);
        rests(pair(20, 20, 40), 0, 11);
        rests(pair(30, 30, 40), 11);
        HandsLet cut = EDGES.told("man a 0 0 0 30;man b 40 0 0 30;man c 1 0 0 0;law turn 1;");
        cut.let(0, 2, 1, 0);
        cut.end(0);
        due("39999", cut.apart(0, 1), 39999);
        rests(cut, 1, 11);
        EDGES.sentence(24, "A REST: neither would have more otherwise");
        HandsLet none = EDGES.told("man a 0 0 0 19;man b 40 0 0 30;law turn 1000;");
        none.let(0, 1, 1, 0);
        none.end(0);
        rests(none);
        due("the other way round, none as well", none.rests(1, 0), 0);
        due("none at all", none.rest(1, 0, 0), -2);
    }

    private static void restRefused() {
        EDGES.sentence(25, "-2: there are no so many");
        HandsLet all = pair(20, 20, 20);
        due("the fourth", all.rest(0, 1, 3), 11);
        due("a fifth", all.rest(0, 1, 4), -2);
        due("the most", all.rest(0, 1, Integer.MAX_VALUE), -2);
        HandsLet one = pair(0, 0, 0);
        due("the first", one.rest(0, 1, 0), 0);
        due("a second", one.rest(0, 1, 1), -2);
        EDGES.sentence(25, "NONE likewise, k is below 0");
        due("k -1", all.rest(0, 1, -1), -1);
        due("the least", all.rest(0, 1, Integer.MIN_VALUE), -1);
        due("alike", all.rest(1, 1, 0), -1);
        due("alike, far", all.rest(1, 1, 9), -1);
        due("-1", all.rest(-1, 0, 0), -1);
        due("other -1", all.rest(0, -1, 0), -1);
        due("2 of two", all.rest(2, 0, 0), -1);
        due("other 2 of two", all.rest(0, 2, 0), -1);
        EDGES.sentence(25, "by the first one's, then the second one's");
        due("the second lets", all.rest(0, 1, 1), 1);
        due("the first lets", all.rest(0, 1, 2), 10);
    }

    private static void quietRefused() {
        EDGES.sentence(26, "NONE: no such ones");
        HandsLet x = EDGES.told("watch 50;");
        due("n -1", x.quiet(-1, 0), -1);
        due("n 7", x.quiet(7, 0), -1);
        due("n 7, below", x.quiet(7, 1), -1);
        due("what -1", x.quiet(1, -1), -1);
        due("what 2", x.quiet(1, 2), -1);
        due("n 0, what 2", x.quiet(0, 2), -1);
        for (int far : FAR) {
            due("n " + far, x.quiet(far, 0), -1);
            due("what " + far, x.quiet(1, far), -1);
        }
    }

    private static void quiet(int watch, int n, long above, long below) {
        HandsLet x = EDGES.told("watch " + watch + ";");
        due("watch " + watch + ", n " + n + ", above", x.quiet(n, 0), above);
        due("watch " + watch + ", n " + n + ", below", x.quiet(n, 1), below);
    }

    private static void quietBounds() {
        EDGES.sentence(26, "QUIET (n 0 .. 6) in least terms");
        for (int watch : new int[] {0, 1, 50, 99, 100}) {
            quiet(watch, 0, 1, 1);
        }
        quiet(0, 1, 1, 1);
        quiet(0, 6, 1, 1);
        quiet(100, 1, 0, 1);
        quiet(100, 6, 0, 1);
        quiet(1, 1, 99, 100);
        quiet(1, 6, 941480149401L, 1000000000000L);
        quiet(99, 1, 1, 100);
        quiet(99, 6, 1, 1000000000000L);
        quiet(50, 6, 1, 64);
        quiet(98, 6, 1, 15625000000L);
        quiet(2, 6, 13841287201L, 15625000000L);
        quiet(25, 2, 9, 16);
        quiet(60, 3, 8, 125);
        due("watch is 0 without", EDGES.told(TWO).quiet(6, 0), 1);
    }
}
