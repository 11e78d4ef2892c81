/** Boundary cases of promises 27 to 37: what was SEEN, WEARS, what to ask, chance, trials, undoing, IMAGES, counts. */
public final class EdgesOfSightTest {
    private static final Edges EDGES = new Edges();
    private static final String TWO = Edges.TWO;
    private static final int[] FAR = Edges.FAR;
    /** By wear 0, 10 .. 100 SLANT of a's HAND behind the first DAY is 0, 9 .. 90. */
    private static final String WORN = "man a 0 0 0 9;man b 90 0 0 9;lease a b 0 1 1;";

    public static void main(String[] args) {
        seeRefused();
        seeBounds();
        seeFull();
        strikeRefused();
        strikeFull();
        strikeWhatStrikes();
        knownRefused();
        knownBounds();
        wearsBounds();
        wearsDays();
        wearsByTurn();
        askRefused();
        askBounds();
        askNone();
        chanceRefused();
        chanceBounds();
        triedRefused();
        triedBounds();
        triedOtherwise();
        undoNone();
        undoTwenty();
        undoDays();
        keepBounds();
        backNone();
        backAll();
        countRefused();
        countBounds();
        EDGES.finish(27, 37);
    }

    private static void due(String what, long got, long want) {
        EDGES.due(what, got, want);
    }

    private static void due(String what, boolean got, boolean want) {
        EDGES.due(what, got ? 1 : 0, want ? 1 : 0);
    }

    private static void seeRefused() {
        EDGES.sentence(27, "NONE: no such ones");
        int[][] wrong = {{0, 0, 0, 0}, {61, 0, 0, 0}, {-1, 0, 0, 0}, {1, -1, 0, 0}, {1, 3, 0, 0}, {1, 0, -1, 0}, {1, 0, 3, 0},
            {1, 0, 0, -1}, {1, 0, 0, 100}};
        for (int[] w : wrong) {
            for (boolean atLeast : new boolean[] {false, true}) {
                EDGES.idle("see " + w[0] + " " + w[1] + " " + w[2] + " " + w[3], Edges::busy,
                        x -> x.see(w[0], w[1], w[2], w[3], atLeast), -1);
            }
        }
        for (int far : FAR) {
            EDGES.idle("days " + far, Edges::busy, x -> x.see(far, 0, 0, 0, true), -1);
            EDGES.idle("hand " + far, Edges::busy, x -> x.see(1, far, 0, 0, true), -1);
            EDGES.idle("trait " + far, Edges::busy, x -> x.see(1, 0, far, 0, true), -1);
            EDGES.idle("much " + far, Edges::busy, x -> x.see(1, 0, 0, far, true), -1);
        }
        due("hand 6 of six", EDGES.told(Edges.SIX).see(1, 6, 0, 0, true), -1);
    }

    private static void seeBounds() {
        EDGES.sentence(27, "behind so many DAYS 1 .. 60");
        HandsLet x = EDGES.told(Edges.SIX);
        due("1 DAY", x.see(1, 0, 0, 0, true), 0);
        due("60 DAYS", x.see(60, 0, 0, 0, true), 1);
        EDGES.sentence(27, "SLANT (0), LOOPS (1) or WEIGHT (2) of a HAND, by 1000, cut, was so much 0 .. 99 at "
                + "least, or less");
        due("the last HAND", x.see(1, 5, 0, 0, true), 2);
        due("trait 2", x.see(1, 0, 2, 0, true), 3);
        due("99", x.see(1, 0, 0, 99, false), 4);
        due("all are so", x.wears(), 2047);
        EDGES.sentence(27, "numbered from 0 on");
        due("those that are none have no number", x.see(0, 0, 0, 0, true), -1);
        due("the next number", x.see(1, 0, 0, 0, true), 5);
    }

    private static HandsLet full() {
        HandsLet x = EDGES.told(TWO);
        for (int k = 0; k < 24; k++) {
            due("number " + k, k % 5 == 4 ? x.strike(k - 1) : x.see(1, 1, 0, 99, true), k);
        }
        return x;
    }

    private static void seeFull() {
        EDGES.sentence(27, "or there are 24");
        HandsLet x = full();
        due("a 25th", x.see(1, 0, 0, 0, true), -1);
        due("a 25th again", x.see(1, 0, 0, 0, false), -1);
        due("24", x.count(11), 24);
        due("by 24", x.count(12), 24);
        due("all are so", x.wears(), 2047);
        due("a text anew", Checks.tell(x, TWO), 2);
        due("from 0 on again", x.see(1, 0, 0, 0, true), 0);
        HandsLet strikes = EDGES.told(TWO);
        strikes.see(1, 0, 0, 0, true);
        for (int k = 1; k < 24; k++) {
            due("strikes are among the 24", strikes.strike(0), k);
        }
        due("a 25th", strikes.see(1, 0, 0, 0, true), -1);
    }

    private static void strikeRefused() {
        EDGES.sentence(28, "NONE: no such one");
        due("of none", EDGES.told(TWO).strike(0), -1);
        due("-1 of none", EDGES.told(TWO).strike(-1), -1);
        for (int seen : new int[] {-1, 3, 4, 24, Integer.MIN_VALUE, Integer.MAX_VALUE}) {
            EDGES.idle("strike " + seen, Edges::busy, x -> x.strike(seen), -1);
        }
        HandsLet x = EDGES.told(TWO);
        x.see(1, 0, 0, 0, true);
        due("itself", x.strike(1), -1);
        due("the first", x.strike(0), 1);
        due("what strikes", x.strike(1), 2);
        due("itself", x.strike(3), -1);
        due("once more", x.strike(0), 3);
    }

    private static void strikeFull() {
        EDGES.sentence(28, "or there are 24");
        HandsLet x = full();
        due("a 25th", x.strike(0), -1);
        due("of the last", x.strike(23), -1);
        due("24", x.count(11), 24);
        HandsLet last = EDGES.told(TWO);
        for (int k = 0; k < 23; k++) {
            last.see(1, 0, 0, 99, true);
        }
        due("none is so", last.wears(), 0);
        due("the 24th strikes the 23rd", last.strike(22), 23);
        due("none is so yet", last.wears(), 0);
        due("a 25th", last.strike(21), -1);
    }

    private static void strikeWhatStrikes() {
        EDGES.sentence(28, "(what strikes may be STRUCK: then it doesn't count; asked from the last one on)");
        HandsLet x = EDGES.told(WORN);
        x.see(1, 0, 0, 90, true);
        for (int k = 0; k < 23; k++) {
            due("a chain", x.wears(), k % 2 == 0 ? 1024 : 2047);
            due("strikes the last one", x.strike(k), k + 1);
        }
        due("24 of them", x.wears(), 2047);
        due("by 23", x.known(23), true);
        due("23 of them", x.wears(), 1024);
        HandsLet twice = EDGES.told(WORN);
        twice.see(1, 0, 0, 90, true);
        twice.strike(0);
        twice.strike(0);
        twice.strike(1);
        due("one of two that strike is STRUCK", twice.wears(), 2047);
        twice.strike(2);
        due("both are", twice.wears(), 1024);
    }

    private static void knownRefused() {
        EDGES.sentence(29, "false: no such n");
        for (int n : new int[] {-2, 4, 24, 25, Integer.MIN_VALUE, Integer.MAX_VALUE}) {
            EDGES.idle("known(" + n + ")", Edges::busy, x -> x.known(n) ? 1 : 0, 0);
        }
        HandsLet x = EDGES.told(TWO);
        due("1 of none", x.known(1), false);
        due("0 of none", x.known(0), true);
        x.see(1, 0, 0, 0, true);
        due("stays 0", x.count(12), 0);
        due("1 of one", x.known(1), true);
        due("2 of one", x.known(2), false);
        due("stays 1", x.count(12), 1);
        HandsLet all = full();
        due("25 of 24", all.known(25), false);
        due("24 of 24", all.known(24), true);
    }

    private static void knownBounds() {
        EDGES.sentence(29, "KNOWN by n from now on (-1: by all, also those to come): true");
        HandsLet x = EDGES.told(WORN);
        x.see(1, 0, 0, 45, true);
        x.see(1, 0, 0, 90, true);
        due("all at first", x.wears(), 1024);
        due("by 0", x.known(0), true);
        due("none is asked", x.wears(), 2047);
        due("0", x.count(12), 0);
        due("by 1", x.known(1), true);
        due("the first", x.wears(), 2016);
        x.see(1, 0, 0, 54, false);
        due("those to come aren't", x.wears(), 2016);
        due("1 yet", x.count(12), 1);
        due("by all three", x.known(3), true);
        due("none is left", x.wears(), 0);
        x.strike(1);
        due("the fourth isn't", x.wears(), 0);
        due("by all", x.known(-1), true);
        due("the fourth is", x.wears(), 32);
        due("4", x.count(12), 4);
        x.see(1, 0, 0, 46, true);
        due("also those to come", x.wears(), 0);
        due("5", x.count(12), 5);
        due("what strikes is not KNOWN by 3", x.known(3) && x.wears() == 0, true);
    }

    private static int wearsBy(int much, boolean atLeast) {
        HandsLet x = EDGES.told(WORN);
        x.see(1, 0, 0, much, atLeast);
        return x.wears();
    }

    private static void wearsBounds() {
        EDGES.sentence(30, "0, 10 .. 100 (bits 0 .. 10) in place of wear");
        due("nothing SEEN", EDGES.told(WORN).wears(), 2047);
        due("0 at least", wearsBy(0, true), 2047);
        due("less than 0", wearsBy(0, false), 0);
        due("1 at least", wearsBy(1, true), 2046);
        due("less than 1", wearsBy(1, false), 1);
        due("9 at least", wearsBy(9, true), 2046);
        due("less than 9", wearsBy(9, false), 1);
        due("10 at least", wearsBy(10, true), 2044);
        due("less than 10", wearsBy(10, false), 3);
        due("81 at least", wearsBy(81, true), 1536);
        due("82 at least", wearsBy(82, true), 1024);
        due("90 at least", wearsBy(90, true), 1024);
        due("less than 90", wearsBy(90, false), 1023);
        due("91 at least", wearsBy(91, true), 0);
        due("less than 91", wearsBy(91, false), 2047);
        due("99 at least", wearsBy(99, true), 0);
        HandsLet told = EDGES.told(WORN + "wear 35;");
        told.see(1, 0, 0, 27, true);
        due("the wear told is no matter", told.wears(), 2040);
        HandsLet cut = EDGES.told("man a 0 0 0 9;man b 99 0 0 9;lease a b 0 1 1;");
        cut.see(1, 0, 0, 10, false);
        due("9900 by 1000, cut", cut.wears(), 3);
        HandsLet thrice = EDGES.told("man a 0 0 0 9;man b 99 0 0 9;lease a b 0 1 1;lease a b 1 1 1;lease a b 2 1 1;");
        thrice.see(1, 0, 0, 89, true);
        due("89100, at last 98901, and 99000", thrice.wears(), 1536);
        due("98901 by 1000, cut", thrice.ask(0, 0) * 10 + thrice.ask(0, 1), 991);
        thrice.see(3, 0, 0, 99, true);
        due("99000 alone", thrice.wears(), 1024);
    }

    private static void wearsDays() {
        EDGES.sentence(30, "(as it goes from the TEXT on, nothing done by call)");
        HandsLet x = EDGES.told("man a 0 0 0 9;man b 90 0 0 9;lease a b 59 1 1;");
        x.see(59, 0, 0, 1, false);
        due("behind 59 DAYS not yet", x.wears(), 2047);
        x.see(60, 0, 0, 90, true);
        due("behind 60 DAYS", x.wears(), 1024);
        x.go(1);
        x.let(0, 1, 99, 0);
        due("LET by call", x.wears(), 1024);
        x.end(0);
        x.teach(0);
        x.go(200);
        due("DAYS later", x.wears(), 1024);
        HandsLet late = EDGES.told("man a 0 0 0 9;man b 90 0 0 9;lease a b 60 1 1;");
        late.see(60, 0, 0, 1, true);
        due("a LEASE of DAY 60 is too late", late.wears(), 0);
        HandsLet watch = EDGES.told("man a 0 0 0 9;man b 90 0 0 9;letter b a 0;lease a b 1 1 9;watch 50;law fine 1;");
        watch.see(2, 0, 0, 1, true);
        due("as it goes b is fined and can't pay", watch.wears(), 0);
        HandsLet less = EDGES.told("man a 0 0 0 9;man b 90 0 0 9;letter b a 0;lease a b 1 1 9;watch 49;law fine 1;");
        less.see(2, 0, 0, 1, true);
        due("with watch 49 he isn't", less.wears(), 2046);
        EDGES.idle("wears leaves all", Edges::busy, y -> y.wears(), 1792);
    }

    private static void wearsByTurn() {
        EDGES.sentence(30, "(E of turn is asked all the same)");
        HandsLet law = EDGES.told(WORN + "law turn 500;");
        law.see(1, 0, 0, 45, true);
        due("500 by all", law.wears(), 2047);
        law.see(1, 0, 0, 46, true);
        due("501 by none", law.wears(), 0);
        HandsLet error = EDGES.told(WORN + "law turn 1/day;");
        error.see(1, 0, 0, 45, true);
        due("with an ERROR by wear", error.wears(), 2016);
    }

    private static void askRefused() {
        EDGES.sentence(31, "NONE: no such ones");
        HandsLet x = EDGES.told(TWO);
        due("what -1", x.ask(0, -1), -1);
        due("what 2", x.ask(0, 2), -1);
        due("hand -1", x.ask(-1, 0), -1);
        due("hand 2 of two", x.ask(2, 0), -1);
        due("hand 6 of six", EDGES.told(Edges.SIX).ask(6, 0), -1);
        due("the last of six", EDGES.told(Edges.SIX).ask(5, 1), 11);
        for (int far : FAR) {
            due("what " + far, x.ask(0, far), -1);
            due("hand " + far, x.ask(far, 0), -1);
        }
    }

    private static void asked(String what, HandsLet x, int number, int left) {
        due(what + ": the number", x.ask(0, 0), number);
        due(what + ": left", x.ask(0, 1), left);
    }

    private static void askBounds() {
        EDGES.sentence(31, "the number 1 .. 99 by which, if one asks whether SLANT behind 60 DAYS (as above) is "
                + "so much at least");
        String worn = "0 0 9;lease a b 0 1 1;";
        asked("0 .. 90", EDGES.told(WORN), 37, 6);
        asked("1 or 0: the first number", EDGES.told("man a 1 0 0 9;man b 0 " + worn), 1, 10);
        asked("1 and 2: the second", EDGES.told("man a 1 0 0 9;man b 2 " + worn), 2, 10);
        asked("98 and 99: the last", EDGES.told("man a 98 0 0 9;man b 99 " + worn), 99, 10);
        asked("97 and 98: the last but one", EDGES.told("man a 97 0 0 9;man b 98 " + worn), 98, 10);
        asked("0 alone", EDGES.told("man a 0 0 0 9;man b 0 " + worn), 1, 11);
        asked("99 alone", EDGES.told("man a 99 0 0 9;man b 99 " + worn), 1, 11);
        asked("LEASE of DAY 59", EDGES.told("man a 0 0 0 9;man b 90 0 0 9;lease a b 59 1 1;"), 37, 6);
        asked("LEASE of DAY 60", EDGES.told("man a 0 0 0 9;man b 90 0 0 9;lease a b 60 1 1;"), 1, 11);
        asked("back behind DAY 60", EDGES.told("man a 0 0 0 9;man b 90 0 0 9;lease a b 0 60 1;"), 37, 6);
        asked("back a DAY later", EDGES.told("man a 0 0 0 9;man b 90 0 0 9;lease a b 0 61 1;"), 1, 11);
        HandsLet later = EDGES.told("man a 0 0 0 9;man b 90 0 0 9;lease a b 60 1 1;");
        later.see(60, 0, 0, 1, false);
        asked("60 from the TEXT on, not from the last one SEEN", later, 1, 11);
        later.see(30, 0, 0, 1, false);
        asked("nor from an earlier one", later, 1, 11);
        HandsLet again = EDGES.told(WORN);
        asked("all", again, 37, 6);
        again.see(1, 0, 0, 81, true);
        asked("those left alone", again, 82, 1);
        HandsLet low = EDGES.told(WORN);
        asked("all", low, 37, 6);
        low.see(1, 0, 0, 18, false);
        asked("0 and 9 alone", low, 1, 1);
        HandsLet last = EDGES.told("man c 5 5 5 9;man d 6 6 6 9;man e 7 7 7 9;man a 0 0 0 9;man b 90 0 0 9;"
                + "lease a b 0 1 1;");
        due("of a later HAND", last.ask(3, 0) * 100 + last.ask(3, 1), 3706);
        due("of another one", last.ask(2, 0) * 100 + last.ask(2, 1), 111);
        EDGES.sentence(31, "the first of several");
        HandsLet two = EDGES.told(WORN);
        two.see(1, 0, 0, 81, true);
        asked("81 and 90: 82 to 90", two, 82, 1);
        HandsLet three = EDGES.told(WORN);
        three.see(1, 0, 0, 72, true);
        asked("72, 81 and 90: 73 is as good as 82", three, 73, 2);
        HandsLet one = EDGES.told(WORN);
        one.see(1, 0, 0, 90, true);
        asked("90 alone", one, 1, 1);
    }

    private static void askNone() {
        EDGES.sentence(31, "(if there are none: 1, none left)");
        HandsLet x = EDGES.told(WORN);
        x.see(1, 0, 0, 0, false);
        asked("none", x, 1, 0);
        x.see(60, 0, 0, 0, true);
        asked("none yet", x, 1, 0);
        due("known by 0", x.known(0), true);
        asked("all again", x, 37, 6);
        EDGES.idle("ask leaves all", Edges::busy, y -> y.ask(0, 1), 2);
    }

    private static void chanceRefused() {
        EDGES.sentence(32, "NONE: no such ones");
        int[][] wrong = {{-1, 1, 0}, {Integer.MIN_VALUE, 1, 0}, {0, 0, 0}, {0, -1, 0}, {0, 100, 0}, {0, Integer.MAX_VALUE, 0},
            {0, Integer.MIN_VALUE, 0}, {0, 1, -1}, {0, 1, 13}, {0, 1, Integer.MAX_VALUE}, {0, 1, Integer.MIN_VALUE}};
        for (int[] w : wrong) {
            EDGES.idle("chance " + w[0] + " " + w[1] + " " + w[2], Edges::busy, x -> x.chance(w[0], w[1], w[2]), -1);
        }
    }

    private static void chanceBounds() {
        EDGES.sentence(32, "numbers from a seed 0 .. 2147483647 on, one behind another; n 1 .. 99 DAYS from now");
        String twelve = TWO + "letter a b 98;".repeat(12);
        HandsLet always = EDGES.told(twelve + "watch 100;");
        due("98 DAYS are too few", always.chance(0, 98, 1), 0);
        due("99 DAYS", always.chance(0, 99, 1), 10);
        due("the most seed", always.chance(Integer.MAX_VALUE, 99, 1), 10);
        EDGES.sentence(32, "so many LETTERS 0 .. 12 at least more than now are FOUND then");
        due("0", always.chance(0, 1, 0), 10);
        due("12", always.chance(0, 99, 12), 10);
        always.go(98);
        due("12 on this DAY", always.chance(0, 1, 12), 10);
        always.go(1);
        due("none more than now", always.chance(0, 99, 1), 0);
        due("0 more than now", always.chance(0, 99, 0), 10);
        due("never looks", EDGES.told(twelve).chance(0, 99, 1), 0);
        seeds(0);
        seeds(1);
        seeds(Integer.MAX_VALUE);
        EDGES.idle("chance leaves all, the numbers too", Edges::busy, y -> y.chance(7, 99, 0), 10);
    }

    /** Ten times one number each, told by numbers that are worked out here. */
    private static void seeds(int seed) {
        for (int watch : new int[] {1, 30, 50, 99}) {
            HandsLet x = EDGES.told(TWO + "letter a b 0;seed 5;watch " + watch + ";");
            long last = seed;
            int many = 0;
            for (int k = 0; k < 10; k++) {
                last = Math.floorMod(last * 1103515245L + 12345L, 2147483648L);
                many += last / 65536 % 100 < watch ? 1 : 0;
            }
            due("seed " + seed + ", watch " + watch, x.chance(seed, 1, 1), many);
            due("the same again", x.chance(seed, 1, 1), many);
        }
    }

    private static void triedRefused() {
        EDGES.sentence(33, "NONE: no such ones (i 0 of all but 2)");
        int[][] wrong = {{-1, 0, 1}, {5, 0, 1}, {0, 1, 1}, {1, 1, 1}, {3, 1, 1}, {4, 1, 1}, {0, -1, 1}, {1, -1, 1}, {3, -1, 1},
            {4, -1, 1}, {2, -1, 1}, {2, 3, 1}, {0, 0, -1}, {0, 0, 201}, {2, 0, -1}, {2, 0, 201}};
        for (int[] w : wrong) {
            EDGES.idle("tried " + w[0] + " " + w[1] + " " + w[2], Edges::busy, x -> x.tried(w[0], w[1], w[2]), -1);
        }
        for (int far : FAR) {
            EDGES.idle("what " + far, Edges::busy, x -> x.tried(far, 0, 1), -1);
            EDGES.idle("i " + far, Edges::busy, x -> x.tried(2, far, 1), -1);
            EDGES.idle("n " + far, Edges::busy, x -> x.tried(0, 0, far), -1);
        }
        due("the last of six", EDGES.told(Edges.SIX).tried(2, 5, 1), 54);
        due("i 6 of six", EDGES.told(Edges.SIX).tried(2, 6, 1), -1);
    }

    private static void triedBounds() {
        EDGES.sentence(33, "TRIED (n 0 .. 200)");
        HandsLet x = EDGES.told("man a 0 0 0 50;man b 0 0 0 50;letter a b 0;letter a b 99;watch 50;");
        for (int what = 0; what <= 4; what++) {
            due("0: now", x.tried(what, 0, 0), 100);
        }
        due("1", x.tried(1, 0, 1), 90);
        due("99", x.tried(1, 0, 99), 90);
        due("100", x.tried(1, 0, 100), 80);
        due("200", x.tried(1, 0, 200), 80);
        EDGES.idle("tried leaves all, the numbers too", Edges::busy, y -> y.tried(0, 0, 0), 95 - 10 * Edges.busy().count(9));
    }

    private static void triedOtherwise() {
        EDGES.sentence(33, "0 the bank never looks, 1 it looks each time");
        for (int watch : new int[] {0, 49, 50, 100}) {
            HandsLet x = EDGES.told("man a 0 0 0 50;man b 0 0 0 50;letter a b 0;watch " + watch + ";");
            due("never, watch " + watch, x.tried(0, 0, 1), 100);
            due("each time, watch " + watch, x.tried(1, 0, 1), 90);
            due("no rent, watch " + watch, x.tried(3, 0, 1), watch >= 50 ? 90 : 100);
            due("no fines, watch " + watch, x.tried(4, 0, 1), 100);
        }
        EDGES.sentence(33, "(it isn't REFUSED) nor writes (what is LET to him now goes on)");
        HandsLet x = EDGES.told("man a 0 0 0 50;man b 0 0 0 50;lease a b 0 1 5;letter a a 0;letter b b 0;"
                + "letter b a 1;watch 100;");
        due("without b a writes a GOOD one", x.tried(2, 1, 2), 100);
        due("without a b forges", x.tried(2, 0, 2), 90);
        x.let(0, 1, 1, 0);
        due("what is LET to b goes on: a forges", x.tried(2, 1, 2), 90);
        HandsLet then = EDGES.told("man a 0 0 0 50;man b 0 0 0 50;letter a b 0;watch 100;");
        then.tried(3, 0, 1);
        due("RENT is as told then", then.let(0, 1, 9, 7), 43);
        then.tried(4, 0, 1);
        then.go(1);
        due("so are fines", then.man(0, 3), 47);
        EDGES.sentence(33, "3 RENT is 0, 4 fines are 0");
        HandsLet law = EDGES.told("man a 0 0 0 9;man b 0 0 0 9;lease a b 0 9 99;letter a a 1;watch 100;"
                + "law rent 999;law fine 999;");
        due("b can't pay, a is GOOD", law.tried(1, 0, 2), 18);
        due("b need not pay, a forges", law.tried(3, 0, 2), 9);
        due("no fines", law.tried(4, 0, 2), 18);
    }

    private static void undoNone() {
        EDGES.sentence(34, "NONE: none");
        EDGES.idle("nothing done", () -> EDGES.told(TWO), HandsLet::undo, -1);
        HandsLet x = EDGES.told(TWO);
        x.let(0, 1, 1, 50);
        due("one", x.undo(), 0);
        due("none left", x.undo(), -1);
        due("none left again", x.undo(), -1);
        due("as told", x.count(6) * 10 + x.count(5), 2000);
        x.let(0, 0, 1, 0);
        x.let(0, 1, 0, 0);
        x.end(0);
        x.end(7);
        x.teach(7);
        due("refused ones can't be undone", x.undo(), -1);
    }

    private static void undoTwenty() {
        EDGES.sentence(34, "the latest first (20 at most)");
        for (int deeds : new int[] {19, 20, 21, 40, 41}) {
            HandsLet x = EDGES.told("man a 0 0 0 9;man b 64 0 0 9;wear 100;");
            x.let(0, 1, 1, 0);
            x.end(0);
            x.go(1);
            int[] slants = new int[deeds + 1];
            slants[0] = 64000;
            for (int k = 1; k <= deeds; k++) {
                slants[k] = x.teach(0);
                due("how many of " + k, x.count(13), Math.min(20, k));
            }
            int most = Math.min(20, deeds);
            for (int k = 1; k <= most; k++) {
                due("left of " + deeds, x.undo(), most - k);
                due("as it was ahead of it", x.hand(0, 0), slants[deeds - k]);
            }
            due("no more", x.undo(), -1);
            due("stays", x.hand(0, 0), slants[deeds - most]);
        }
        lastHand();
        HandsLet mixed = EDGES.told(TWO);
        for (int k = 0; k < 30; k++) {
            mixed.teach(0);
            mixed.undo();
        }
        due("done and undone", mixed.count(13), 0);
        mixed.let(0, 1, 9, 7);
        due("one", mixed.undo(), 0);
        due("PURSES", mixed.man(0, 3) * 1000 + mixed.man(1, 3), 100100);
    }

    /** Each deed upon the last HAND of three: just this HAND is as it was, and both PURSES. */
    private static void lastHand() {
        HandsLet x = EDGES.told("man a 1 2 3 9;man b 4 5 6 9;man c 7 8 9 9;wear 100;");
        String first = Edges.state(x);
        x.let(2, 0, 3, 2);
        String let = Edges.state(x);
        x.end(2);
        String ended = Edges.state(x);
        x.teach(2);
        x.undo();
        due("the LESSON", Edges.state(x).equals(ended), true);
        due("SLANT worn to that of a", x.hand(2, 0), 1000);
        due("WEIGHT worn to that of a", x.hand(2, 2), 3000);
        due("LET once", x.hand(2, 5), 1);
        x.undo();
        due("the end", Edges.state(x).equals(let), true);
        x.undo();
        due("the letting", Edges.state(x).equals(first), true);
    }

    private static void undoDays() {
        EDGES.sentence(34, "if no DAY went by since");
        HandsLet x = EDGES.told(TWO);
        x.let(0, 1, 9, 7);
        x.go(0);
        due("none went by", x.count(13), 1);
        x.go(-1);
        x.go(201);
        due("refused ones went not by", x.count(13), 1);
        x.ahead(9, 0, 0);
        x.tried(0, 0, 9);
        x.chance(0, 9, 0);
        due("those that were tried neither", x.undo(), 0);
        x.let(0, 1, 9, 7);
        x.go(1);
        due("one went by", x.count(13), 0);
        due("nothing to undo", x.undo(), -1);
        x.end(0);
        due("done since", x.undo(), 0);
        due("LET for 8 DAYS yet", x.hand(0, 4), 8);
        due("never LET once", x.hand(0, 5), 0);
    }

    private static void keepBounds() {
        EDGES.sentence(35, "An IMAGE is kept (in place of one ahead): which DAY it is");
        HandsLet x = EDGES.told(TWO);
        due("DAY 0", x.keep(), 0);
        x.let(0, 1, 99, 5);
        due("DAY 0 again", x.keep(), 0);
        due("can be undone yet", x.count(13), 1);
        x.undo();
        due("not LET", x.count(5), 0);
        due("the IMAGE", x.back(), 0);
        due("LET in the later one", x.count(5), 1);
        x.go(200);
        due("DAY 200", x.keep(), 200);
        x.go(1);
        due("the latest", x.back(), 200);
        EDGES.idle("keep changes nothing else", () -> {
            HandsLet y = EDGES.told(TWO);
            y.teach(0);
            y.keep();
            return y;
        }, HandsLet::keep, 0);
    }

    private static void backNone() {
        EDGES.sentence(36, "NONE: there is none");
        EDGES.idle("none kept", () -> {
            HandsLet x = EDGES.told(TWO);
            x.go(3);
            x.teach(0);
            return x;
        }, HandsLet::back, -1);
        HandsLet x = EDGES.told(TWO);
        x.keep();
        Checks.tell(x, "?");
        due("a FAULT leaves it", x.back(), 0);
        x.text(-1);
        due("so does -2", x.back(), 0);
        Checks.tell(x, TWO);
        due("a TEXT doesn't", x.back(), -1);
        x.keep();
        x.text(0);
        due("nor does one without LINES", x.back(), -1);
    }

    private static void backAll() {
        EDGES.sentence(36, "All (but what was SEEN) is as in the IMAGE (nothing to undo then): which DAY it is");
        HandsLet x = Edges.busy();
        x.undo();
        x.undo();
        String before = Edges.state(x);
        due("DAY 2", x.keep(), 2);
        x.go(99);
        x.let(0, 2, 9, 0);
        due("back", x.back(), 2);
        due("all is as it was", Edges.state(x).equals(before), true);
        HandsLet z = EDGES.told("man a 10 20 30 9;man b 90 80 70 0;letter b a 0;letter b a 0;lease a b 1 9 1;"
                + "letter b a 1;");
        z.go(1);
        z.let(0, 1, 1, 0);
        z.end(0);
        z.go(1);
        String kept = Edges.state(z);
        z.keep();
        Checks.tell(z, "?");
        z.go(9);
        due("back", z.back(), 2);
        due("CLASHES, REFUSED, traits of LETTERS", Edges.state(z).equals(kept), true);
        due("SLANT of the first LETTER", z.letter(0, 6), 50000);
        due("it was REFUSED", z.count(10), 1);
        HandsLet early = EDGES.told("man a 10 20 30 9;man b 90 80 70 0;letter b a 0;letter b a 0;lease a b 0 9 1;");
        early.keep();
        String none = Edges.state(early);
        early.go(1);
        due("CLASHES", early.letter(1, 4), 1);
        due("back", early.back(), 0);
        due("none written, none CLASHES, none REFUSED", Edges.state(early).equals(none), true);
        HandsLet other = EDGES.told(TWO + "letter a b 0;");
        other.keep();
        other.let(1, 0, 9, 0);
        other.end(1);
        other.go(1);
        due("half of the worn HAND", other.letter(0, 6), 39600);
        other.back();
        other.go(1);
        due("half of the HAND as it was", other.letter(0, 6), 49500);
        HandsLet y = EDGES.told(WORN + "letter b a 1;letter b a 2;seed 1;watch 39;");
        y.see(1, 0, 0, 45, true);
        y.keep();
        y.see(1, 0, 0, 90, true);
        y.known(1);
        y.teach(0);
        y.go(2);
        due("38 of 39", y.count(9), 1);
        y.teach(0);
        due("back", y.back(), 0);
        due("nothing to undo", y.undo(), -1);
        due("SEEN stays", y.count(11), 2);
        due("so does by how many", y.count(12), 1);
        due("none FOUND", y.count(9), 0);
        y.go(2);
        due("the numbers come again", y.count(9), 1);
        due("back once more", y.back(), 0);
        due("and once more", y.back(), 0);
    }

    private static void countRefused() {
        EDGES.sentence(37, "NONE for another what");
        for (int what : new int[] {-1, 14, Integer.MIN_VALUE, Integer.MAX_VALUE}) {
            due("count(" + what + ")", Edges.busy().count(what), -1);
            due("count(" + what + ") of none", new HandsLet().count(what), -1);
        }
        EDGES.sentence(37, "10 REFUSED so far (by days)");
        HandsLet x = EDGES.told("man a 0 0 0 0;man b 0 0 0 0;lease a b 0 1 1;");
        x.let(0, 1, 1, 1);
        due("not by call", x.count(10), 0);
        x.go(1);
        due("by a DAY", x.count(10), 1);
    }

    private static void countBounds() {
        EDGES.sentence(37, "0 PEOPLE, 1 LEASES, 2 LETTERS told, 3 KNOTS, 4 the DAY, 5 HANDS that are LET, 6 "
                + "PURSES in sum");
        HandsLet x = EDGES.told("man a 0 0 0 999;man b 0 0 0 999;man c 0 0 0 999;man d 0 0 0 999;"
                + "man e 0 0 0 999;man f 0 0 0 999;"
                + "lease a b 0 9 0;lease b c 0 9 0;lease c d 0 9 0;lease d e 0 9 0;lease e f 0 9 0;lease f a 0 9 0;"
                + "lease a b 0 9 0;".repeat(4) + "letter a a 0;".repeat(12) + "watch 100;law rent 0;"
                + "law fine " + "(1+1)-".repeat(8) + "1;");
        int[] first = {6, 10, 12, 34, 0, 0, 5994, 0, 0, 0, 0, 0, 0, 0};
        for (int what = 0; what < first.length; what++) {
            due("at first, count(" + what + ")", x.count(what), first[what]);
        }
        x.go(1);
        int[] then = {6, 10, 12, 34, 1, 6, 5994, 12, 11, 12, 4, 0, 0, 0};
        for (int what = 0; what < then.length; what++) {
            due("then, count(" + what + ")", x.count(what), then[what]);
        }
        x.go(200);
        due("none LET", x.count(5), 0);
        due("all that were FOUND", x.count(9), 12);
        EDGES.sentence(37, "11 SEEN, 12 by how many it is KNOWN, 13 what can be undone");
        HandsLet y = full();
        due("24", y.count(11), 24);
        due("all 24", y.count(12), 24);
        y.known(0);
        due("by none", y.count(12), 0);
        for (int k = 0; k < 25; k++) {
            y.teach(0);
        }
        due("20 at most", y.count(13), 20);
    }
}
