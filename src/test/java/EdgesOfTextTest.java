/** Boundary cases of promises 1 to 5: the TAPE, the TEXT, its FAULTS, its names. */
public final class EdgesOfTextTest {
    private static final Edges EDGES = new Edges();
    private static final String TWO = Edges.TWO;
    private static final long ERROR = Long.MIN_VALUE;
    private static final String[] LANGUAGE = {"man", "lease", "letter", "wear", "watch", "seed", "law", "rent", "turn",
        "fine", "or", "and", "not", "slant", "loops", "weight", "purse", "price", "times", "day"};
    private static final String[] JOINTS = {"+", "-", "*", "/", "<", "<=", "=", "<>", ">=", ">", " and ", " or "};
    /** An E of 63 KNOTS that ends with an operand. */
    private static final String KNOTS63 = "1" + "+1".repeat(31);

    public static void main(String[] args) {
        newObject();
        emptyTape();
        fed();
        fullTape();
        firstBytes();
        notSoMany();
        allStays();
        allAnew();
        lines();
        words();
        numbers();
        blanks();
        bounds();
        manyLines();
        brackets();
        knots();
        knotsOfAll();
        leastOfOnePlace();
        firstAlongTheText();
        wrongTokens();
        moreMustCome();
        comparisons();
        toldAlready();
        notToldAhead();
        toTheOwner();
        faultAsked();
        named();
        EDGES.finish(1, 5);
    }

    private static void due(String what, long got, long want) {
        EDGES.due(what, got, want);
    }

    private static void newObject() {
        EDGES.sentence(1, "A TEXT without LINES");
        HandsLet x = new HandsLet();
        for (int what = 0; what <= 13; what++) {
            due("count(" + what + ")", x.count(what), 0);
        }
        for (int what = 0; what <= 5; what++) {
            due("match(" + what + ")", x.match(what), -2);
        }
        due("match(6)", x.match(6), 0);
        due("match(7)", x.match(7), 0);
        due("hand", Checks.hand(x, 0, 0), Checks.NO_HAND);
        due("fault(0)", x.fault(0), 0);
        due("fault(1)", x.fault(1), -1);
        due("putOff", x.putOff(), 0);
        due("quiet above", x.quiet(6, 0), 1);
        due("quiet below", x.quiet(6, 1), 1);
        due("wears", x.wears(), 2047);
        due("known(0)", x.known(0) ? 1 : 0, 1);
        due("known(1)", x.known(1) ? 1 : 0, 0);
        due("chance of none", x.chance(0, 1, 0), 10);
        due("chance of one", x.chance(0, 99, 1), 0);
        due("ahead of FORGED", x.ahead(200, 1, 0), 0);
        due("tried", x.tried(1, 0, 200), 0);
        due("undo", x.undo(), -1);
        due("back", x.back(), -1);
        due("go", x.go(200), 200);
        due("keep", x.keep(), 200);
        nobodyThere(new HandsLet());
    }

    /** With nobody told each call that asks for a PERSON, a HAND or a LETTER is refused. */
    private static void nobodyThere(HandsLet x) {
        due("named", x.named(0), -1);
        due("man", x.man(0, 0), -1);
        due("letter", x.letter(0, 0), -1);
        due("law", x.law(0, 0, 0, 0), ERROR);
        due("let", x.let(0, 1, 1, 0), -1);
        due("end", x.end(0), -1);
        due("teach", x.teach(0), -1);
        due("ahead, a PURSE", x.ahead(0, 0, 0), -1);
        due("ahead, a SLANT", x.ahead(0, 3, 0), -1);
        due("free", x.free(0), -1);
        due("apart", x.apart(0, 0), -1);
        due("like", x.like(0), -1);
        due("could", x.could(0, 0), -1);
        due("auction", x.auction(0, 0), -1);
        due("ring", x.ring(0, 0), -1);
        due("lessons", x.lessons(0), -1);
        due("rests", x.rests(0, 1), -1);
        due("rest", x.rest(0, 1, 0), -1);
        due("see", x.see(1, 0, 0, 0, true), -1);
        due("strike", x.strike(0), -1);
        due("ask", x.ask(0, 0), -1);
        due("tried", x.tried(2, 0, 1), -1);
    }

    private static void emptyTape() {
        EDGES.sentence(1, "an empty TAPE");
        due("no byte", new HandsLet().text(1), -2);
        due("none of none", new HandsLet().text(0), 0);
        due("the first twenty", new HandsLet().feed(0, 0, 0, 0, 0), 20);
    }

    private static void fed() {
        EDGES.sentence(2, "Twenty bytes come behind the TAPE, four of each number, the highest first: how many it has");
        HandsLet x = new HandsLet();
        due("man a 1 2 3 4;man lo", x.feed(0x6D616E20, 0x61203120, 0x32203320, 0x343B6D61, 0x6E206C6F), 20);
        due("ng 5 6 7 8;", x.feed(0x6E672035, 0x20362037, 0x20383B20, 0x20202020, 0x20202020), 40);
        due("two LINES", x.text(40), 2);
        due("a word over the edge of two", x.named(Checks.letters("long")), 1);
        due("the last number", x.man(1, 3), 8);
        for (int sign : new int[] {0, 9, 11, 13, 31, 33, 127, 128, 160, 255}) {
            for (int at = 0; at < 4; at++) {
                HandsLet y = new HandsLet();
                int four = 0x20202020 ^ (0x20 ^ sign) << 24 - 8 * at;
                y.feed(four, 0x20202020, 0x20202020, 0x20202020, 0x20202020);
                due("byte " + sign + " at " + at, y.text(20), -1);
                due("the place of byte " + sign, y.fault(1), at);
            }
        }
        HandsLet last = new HandsLet();
        last.feed(0x20202020, 0x20202020, 0x20202020, 0x20202020, 0x2020203B);
        due("the twentieth byte", last.text(20), -1);
        due("its place", last.fault(1), 19);
    }

    private static HandsLet blanks(int feeds) {
        HandsLet x = new HandsLet();
        for (int k = 1; k <= feeds; k++) {
            due("blanks", x.feed(0x20202020, 0x20202020, 0x20202020, 0x20202020, 0x20202020), 20 * k);
        }
        return x;
    }

    private static void fullTape() {
        EDGES.sentence(2, "NONE, and none come, if it would have more than 700");
        HandsLet x = blanks(34);
        due("up to 700: wear 7;", x.feed(0x20202020, 0x20202020, 0x20202020, 0x77656172, 0x20373B20), 700);
        due("beyond", x.feed(0x77617463, 0x6820393B, -1, -1, -1), -1);
        due("beyond again", x.feed(0, 0, 0, 0, 0), -1);
        due("there are no more than 700", x.text(701), -2);
        due("it is full yet", x.feed(0, 0, 0, 0, 0), -1);
        due("the 700 are as they were", x.text(700), 1);
        due("and gone", x.text(1), -2);
        due("there is room again", x.feed(0, 0, 0, 0, 0), 20);
        HandsLet fault = blanks(34);
        fault.feed(0x20202020, 0x20202020, 0x20202020, 0x20202020, 0x2020203F);
        due("a FAULT at the last byte", fault.text(700), -1);
        due("its place", fault.fault(1), 699);
        HandsLet more = blanks(34);
        more.feed(0x20202020, 0x20202020, 0x20202020, 0x20202020, 0x20736565);
        due("a word up to the last byte", more.text(700), -1);
        due("its place", more.fault(1), 697);
        HandsLet open = blanks(34);
        open.feed(0x20202020, 0x20202020, 0x20202020, 0x20202020, 0x73656564);
        due("more must come behind 700", open.text(700), -1);
        due("at the length", open.fault(1), 700);
    }

    private static void firstBytes() {
        EDGES.sentence(3, "The TAPE's first n bytes (it is empty then) are the TEXT");
        HandsLet x = new HandsLet();
        x.feed(0x77656172, 0x20373B77, 0x61746368, 0x20393B20, 0x20202020);
        due("wear 7; of twenty", x.text(7), 1);
        due("watch isn't told", x.quiet(1, 1), 1);
        due("the others are gone", x.text(1), -2);
        due("so the next are the first", x.feed(0x77656172, 0x20373B77, 0x61746368, 0x20393B20, 0x20202020), 20);
        due("with a byte less", x.text(6), -1);
        due("more must come", x.fault(1), 6);
        due("gone with a FAULT, too", x.text(1), -2);
        x.feed(0x77656172, 0x20373B77, 0x61746368, 0x20393B20, 0x20202020);
        due("none of twenty", x.text(0), 0);
        due("gone with none, too", x.feed(0, 0, 0, 0, 0), 20);
        HandsLet all = new HandsLet();
        all.feed(0x77656172, 0x20373B77, 0x61746368, 0x20393B20, 0x20202020);
        due("all of them", all.text(20), 2);
        due("watch is told", all.quiet(1, 0), 91);
        HandsLet cut = new HandsLet();
        cut.feed(0x73656564, 0x20313233, 0x3B202020, 0x20202020, 0x20202020);
        due("a number isn't read behind the n bytes", cut.text(7), -1);
        due("there more must come", cut.fault(1), 7);
    }

    private static void notSoMany() {
        EDGES.sentence(3, "-2, and the TAPE stays: there are not so many, n is below 0");
        for (int n : new int[] {21, 700, 701, Integer.MAX_VALUE, -1, -20, Integer.MIN_VALUE}) {
            EDGES.idle("text(" + n + ")", Edges::busy, x -> x.text(n), -2);
            HandsLet x = new HandsLet();
            x.feed(0x77656172, 0x20373B20, 0x20202020, 0x20202020, 0x20202020);
            due("text(" + n + ") of 20", x.text(n), -2);
            due("the TAPE stays", x.text(20), 1);
        }
        due("one of none", new HandsLet().text(1), -2);
        due("-1 of none", new HandsLet().text(-1), -2);
    }

    private static void allStays() {
        EDGES.sentence(3, "NONE with a FAULT, all stays");
        String[] texts = {"?", "man", "man a 1 2 3 4;man a", "wear 101;", "lease ann bo 1 1 1;", "wear 5;"
                + "watch 7;seed 9;law"};
        for (String text : texts) {
            HandsLet x = stayer();
            String before = seen(x);
            due(text, Checks.tell(x, text), -1);
            due("all stays behind " + text, seen(x).equals(before) ? 1 : 0, 1);
            due("the deed can be undone behind " + text, x.undo(), 0);
            due("a HAND by it", x.count(5), 0);
            due("the IMAGE is there behind " + text, x.back(), 1);
            due("the law of rent is there", x.law(0, 0, 1, 3), 4);
        }
    }

    private static HandsLet stayer() {
        HandsLet x = EDGES.told(TWO + "letter a b 0;letter a b 3;lease b a 5 1 1;wear 30;watch 75;seed 3;"
                + "law rent price+1;");
        x.go(1);
        x.keep();
        x.go(1);
        x.see(1, 0, 0, 1, false);
        x.see(1, 0, 0, 2, false);
        x.known(1);
        x.let(0, 1, 5, 1);
        return x;
    }

    private static String seen(HandsLet x) {
        return Edges.state(x) + x.quiet(1, 0) + " " + x.named(Checks.letters("b")) + " " + x.chance(1, 9, 1) + " "
                + x.ahead(9, 0, 0);
    }

    private static void allAnew() {
        EDGES.sentence(3, "(DAY 0, nothing LET, written, SEEN, all KNOWN, no IMAGE, nothing to undo then)");
        HandsLet x = stayer();
        due("the same anew", Checks.tell(x, TWO + "letter a b 0;letter a b 3;lease b a 5 1 1;"), 5);
        nothingYet(x);
        HandsLet none = stayer();
        due("a TEXT without LINES", none.text(0), 0);
        due("nobody", none.count(0) + none.count(1) + none.count(2) + none.count(3), 0);
        due("no PURSES", none.count(6), 0);
        due("none LET", none.count(5), 0);
        due("no IMAGE", none.back(), -1);
        HandsLet fewer = EDGES.told(Edges.SIX);
        fewer.let(5, 0, 9, 0);
        due("five of six", fewer.match(6), 5);
        Checks.tell(fewer, Edges.SIX);
        Checks.tell(fewer, TWO);
        due("fewer PEOPLE: none LET", fewer.count(5), 0);
        due("fewer PEOPLE: PURSES", fewer.count(6), 200);
        due("fewer PEOPLE", Checks.hand(fewer, 2, 0), Checks.NO_HAND);
        due("fewer PEOPLE: matched", fewer.match(0) * 10 + fewer.match(1), 10);
        due("fewer PEOPLE: in sum", fewer.match(7), 594000);
        oftenAnew();
    }

    private static void nothingYet(HandsLet x) {
        due("DAY", x.count(4), 0);
        due("LET", x.count(5), 0);
        due("TENANT", Checks.hand(x, 0, 3), -2);
        due("for no DAYS", Checks.hand(x, 0, 4), 0);
        due("PURSES", x.count(6), 200);
        due("written", x.letter(0, 3), 0);
        due("as what", x.letter(0, 6), -2);
        due("FORGED", x.count(7), 0);
        due("FOUND", x.letter(0, 5) + x.count(9), 0);
        due("SEEN", x.count(11), 0);
        due("KNOWN", x.count(12), 0);
        due("SEEN anew from 0 on", x.see(1, 0, 0, 1, false), 0);
        due("all KNOWN", x.count(12), 1);
        due("no IMAGE", x.back(), -1);
        due("nothing to undo", x.undo(), -1);
        due("wear is 20, watch and seed are 0, no law", x.quiet(1, 0), 1);
        due("no law", x.law(0, 0, 1, 3), ERROR);
        x.let(0, 1, 1, 3);
        due("RENT is the PRICE", x.man(1, 3), 97);
        x.end(0);
        due("wear", Checks.hand(x, 0, 0), 19800);
    }

    /** Many TEXTS one behind another, so that one which left something behind in any row would be found. */
    private static void oftenAnew() {
        HandsLet x = new HandsLet();
        String much = TWO + "lease a b 0 1 1;lease a b 0 1 1;letter b b 0;letter a b 0;wear 90;watch 99;seed 7;"
                + "law rent 1+2;law turn 3*4;law fine 5 or 6;";
        String less = TWO + "letter b b 1;letter a b 1;watch 1;";
        for (int k = 0; k < 5; k++) {
            due("much", Checks.tell(x, much), 12);
            due("as much again", Checks.tell(x, much), 12);
            due("KNOTS of it", x.count(3), 9);
            x.go(1);
            due("CLASHES, REFUSED, times", x.letter(1, 4) * 100 + x.count(10) * 10 + Checks.hand(x, 0, 5), 111);
            x.see(1, 0, 0, 99, true);
            x.see(1, 0, 0, 99, true);
            due("a FAULT amidst brackets", Checks.tell(x, "law rent not((1+(2*"), -1);
            due("less", Checks.tell(x, less), 5);
            due("LEASES", x.count(1), 0);
            due("LETTERS", x.count(2), 2);
            due("KNOTS", x.count(3), 0);
            due("CLASHES", x.count(8) + x.letter(1, 4), 0);
            due("REFUSED", x.count(10), 0);
            due("times LET", Checks.hand(x, 0, 5), 0);
            due("no laws", x.law(0, 0, 1, 0) == ERROR && x.law(1, 0, 1, 0) == ERROR && x.law(2, 0, 1, 0) == ERROR ? 1 : 0, 1);
            x.see(1, 1, 0, 99, true);
            due("strikes what is there", x.strike(0), 1);
            due("another one", x.see(1, 1, 0, 99, true), 2);
            due("nothing SEEN of the earlier TEXT is asked", x.wears(), 2047);
            x.go(2);
            due("seed 0: its first number is 0", x.letter(1, 5), 1);
            due("a fine of 10", x.man(0, 3), 90);
            x.let(0, 1, 1, 0);
            x.end(0);
            due("wear 20", Checks.hand(x, 0, 0), 19800);
            due("the least", Checks.tell(x, TWO), 2);
            due("watch 0", x.quiet(1, 1), 1);
            due("no LETTERS", x.count(2), 0);
        }
    }

    private static void lines() {
        EDGES.sentence(3, "how many LINES");
        EDGES.fine("", 0);
        EDGES.fine("seed 0;", 1);
        String most = "man a 0 0 0 0;man b 0 0 0 0;man c 0 0 0 0;man d 0 0 0 0;man e 0 0 0 0;man f 0 0 0 0;"
                + "lease a b 0 1 0;".repeat(10) + "letter a a 0;".repeat(12)
                + "wear 0;watch 0;seed 0;law rent 1;law turn 1;law fine 1;";
        EDGES.fine(most, 34);
        for (String more : new String[] {"man g 0 0 0 0;", "lease a b 0 1 0;", "letter a a 0;"}) {
            EDGES.fault(most + more, 2, most.length());
        }
        EDGES.fine("man a 1 2 3 4;letter a a 1;man b 1 2 3 4;lease a b 1 1 1;law fine 1;man c 1 2 3 4;", 6);
    }

    private static void words() {
        EDGES.sentence(3, "W: one of 1 .. 6 letters, none of those of the language");
        EDGES.fine("man a 0 0 0 0;", 1);
        EDGES.fine("man z 0 0 0 0;", 1);
        EDGES.fine("man abcdef 0 0 0 0;", 1);
        EDGES.fine("man zzzzzz 0 0 0 0;", 1);
        EDGES.fault("man abcdefg 0 0 0 0;", 1, 4);
        EDGES.fault("man " + "z".repeat(600) + " 0 0 0 0;", 1, 4);
        for (String word : LANGUAGE) {
            EDGES.fault("man " + word + " 0 0 0 0;", 1, 4);
            EDGES.fault(TWO + "lease " + word + " a 0 1 0;", 1, TWO.length() + 6);
            EDGES.fault(TWO + "letter a " + word + " 0;", 1, TWO.length() + 9);
            if (word.length() < 6) {
                EDGES.fine("man " + word + "z 0 0 0 0;", 1);
            }
            EDGES.fine("man " + word.substring(1) + " 0 0 0 0;", 1);
        }
        EDGES.sentence(4, "a word of more than 6 letters that is none of the language, too");
        EDGES.fault("letters a a 0;", 1, 0);
        EDGES.fault("law rent weights;", 1, 9);
        EDGES.fault("law rent 1 andandand 2;", 1, 11);
        EDGES.fault(TWO + "letter abcdefg a 0;", 1, TWO.length() + 7);
        EDGES.fault("man A 0 0 0 0;", 1, 4);
        EDGES.fault("man ab`c 0 0 0 0;", 1, 6);
        EDGES.fault("man ab{c 0 0 0 0;", 1, 6);
        EDGES.fault("Man a 0 0 0 0;", 1, 0);
    }

    private static void numbers() {
        EDGES.sentence(3, "N: digits");
        EDGES.fine("man a 00000000000000000000000000000099 000 0 0000999;", 1);
        EDGES.fine("man a0 0 0 0;", 1);
        EDGES.fine("wear0;watch00;seed099999;", 3);
        EDGES.fault("man a 4294967296 0 0 0;", 2, 6);
        EDGES.fault("man a 18446744073709551616 0 0 0;", 2, 6);
        EDGES.fault("seed 4294967297;", 2, 5);
        EDGES.fault("law rent 4294967297;", 2, 9);
        EDGES.fault("man a -1 0 0 0;", 1, 6);
        EDGES.fault("man a +1 0 0 0;", 1, 6);
        EDGES.fault("man a 0.5 0 0 0;", 1, 7);
        EDGES.fault("man a / 0 0 0;", 1, 6);
        EDGES.fault("man a : 0 0 0;", 1, 6);
        HandsLet x = EDGES.told("man a 09 10 0000000000000000000000000099 999;");
        due("09", x.man(0, 0), 9);
        due("10", x.man(0, 1), 10);
        due("many noughts and 99", x.man(0, 2), 99);
    }

    /** Each byte between two numbers of an E: what it is. */
    private static void blanks() {
        EDGES.sentence(3, "Blanks 10, 32");
        EDGES.fine("\n \n", 0);
        EDGES.fine("man\na\n1\n2\n3\n4\n;\n", 1);
        for (int sign = 0; sign <= 255; sign++) {
            String text = "law rent 1" + (char) sign + "2;";
            boolean joins = "+-*/<=>0123456789".indexOf(sign) >= 0;
            boolean parts = sign == 10 || sign == 32 || sign == ';';
            if (joins) {
                EDGES.fine(text, 1);
            } else {
                EDGES.fault(text, 1, parts ? 11 : 10);
            }
            if (sign != 10 && sign != 32) {
                EDGES.fault(" " + (char) sign, 1, 1);
            }
        }
    }

    private static void bound(String ahead, int least, int most, String behind) {
        int place = ahead.length();
        int lines = (ahead + behind).split(";").length;
        EDGES.fine(ahead + least + behind, lines);
        EDGES.fine(ahead + most + behind, lines);
        EDGES.fault(ahead + (most + 1) + behind, 2, place);
        EDGES.fault(ahead + most + "0" + behind, 2, place);
        EDGES.fault(ahead + "9".repeat(40) + behind, 2, place);
        if (least > 0) {
            EDGES.fault(ahead + (least - 1) + behind, 2, place);
            EDGES.fault(ahead + "000" + behind, 2, place);
        }
    }

    private static void bounds() {
        EDGES.sentence(4, "2 too much (at it): a number beyond what is said");
        bound("man a ", 0, 99, " 1 1 1;");
        bound("man a 1 ", 0, 99, " 1 1;");
        bound("man a 1 1 ", 0, 99, " 1;");
        bound("man a 1 1 1 ", 0, 999, ";");
        bound(TWO + "lease a b ", 0, 99, " 1 1;");
        bound(TWO + "lease a b 1 ", 1, 99, " 1;");
        bound(TWO + "lease a b 1 1 ", 0, 99, ";");
        bound(TWO + "letter a b ", 0, 99, ";");
        bound("wear ", 0, 100, ";");
        bound("watch ", 0, 100, ";");
        bound("seed ", 0, 99999, ";");
        bound("law rent ", 0, 9999, ";");
        bound("law turn 1+(2*", 0, 9999, ");");
        bound("law fine not ", 0, 9999, ";");
    }

    private static void manyLines() {
        EDGES.sentence(4, "a seventh man and so on (at the word of the LINE)");
        String six = Edges.SIX;
        EDGES.fine(six, 6);
        EDGES.fault(six + "man", 2, six.length());
        EDGES.fault(six + " man g 1 2 3 4;", 2, six.length() + 1);
        EDGES.fault(six + "man a ?", 2, six.length());
        String ten = TWO + "lease a b 1 1 1;".repeat(10);
        EDGES.fine(ten, 12);
        EDGES.fault(ten + "lease", 2, ten.length());
        EDGES.fault(ten + "lease c c 100 0 100", 2, ten.length());
        String twelve = TWO + "letter a b 1;".repeat(12);
        EDGES.fine(twelve, 14);
        EDGES.fault(twelve + "letter", 2, twelve.length());
        EDGES.fault(twelve + "letter c c 100", 2, twelve.length());
        EDGES.fine(ten + "letter a b 1;".repeat(12), 24);
    }

    private static void brackets() {
        EDGES.sentence(4, "a ninth '(' open");
        EDGES.fine("law rent ((((((((1))))))));", 1);
        EDGES.fine("law rent ((((((((1))))))))+((((((((1))))))));law turn ((((((((1))))))));", 2);
        EDGES.fine("law rent ((((((((1)+(1)+(1))))))));", 1);
        EDGES.fault("law rent (((((((((1)))))))));", 2, 17);
        EDGES.fault("law rent (((((((((", 2, 17);
        EDGES.fault("law rent ((((((((1)+(2+(3", 2, 23);
        EDGES.fault("law rent not(((not(((1*(1<(not(1", 2, 30);
        EDGES.fault("law rent ((((((((1)))))))));", 1, 26);
        EDGES.fault("law rent ((((((((1)))))));", 1, 25);
    }

    private static void knots() {
        EDGES.sentence(4, "a 65th KNOT of all E (N, NAMES, signs, not, and, or: one each)");
        String law = "law rent ";
        EDGES.fine(law + "not " + KNOTS63 + ";", 1);
        EDGES.fine(law + "((((((((not " + KNOTS63 + "))))))));", 1);
        EDGES.fine(law + "not ".repeat(63) + "1;", 1);
        EDGES.fault(law + "not ".repeat(64) + "1;", 2, law.length() + 256);
        EDGES.fault(law + "not ".repeat(64) + "not 1;", 2, law.length() + 256);
        for (String joint : JOINTS) {
            int sign = joint.startsWith(" ") ? 1 : 0;
            String full = law + "not " + KNOTS63;
            EDGES.fault(full + joint + "1;", 2, full.length() + sign);
            String ahead = law + KNOTS63 + joint;
            EDGES.fault(ahead + "1;", 2, ahead.length());
            EDGES.fault(ahead + "day;", 2, ahead.length());
            EDGES.fault(ahead + "(1);", 2, ahead.length() + 1);
            EDGES.fault(ahead + "9999", 2, ahead.length());
        }
        EDGES.fault(law + KNOTS63 + " and not 1;", 2, law.length() + 63 + 5);
        EDGES.fault(law + KNOTS63 + " or not 1;", 2, law.length() + 63 + 4);
        HandsLet x = EDGES.told(law + "((not " + KNOTS63 + "));");
        due("64", x.count(3), 64);
    }

    private static void knotsOfAll() {
        EDGES.sentence(4, "a 65th KNOT of all E");
        String first = "law fine " + KNOTS63 + ";";
        EDGES.fine(first + "law turn 1;", 2);
        EDGES.fine(first + "law turn day;", 2);
        EDGES.fault(first + "law turn 1+1;", 2, first.length() + 10);
        EDGES.fault(first + "law turn day and 1;", 2, first.length() + 13);
        EDGES.fault(first + "law turn not 1;", 2, first.length() + 13);
        String two = first + "law turn 1;";
        EDGES.fault(two + "law rent 1;", 2, two.length() + 9);
        EDGES.fault(two + "law rent loops;", 2, two.length() + 9);
        EDGES.fault(two + "law rent not 1;", 2, two.length() + 9);
        EDGES.fault(two + "law rent (1);", 2, two.length() + 10);
        HandsLet x = new HandsLet();
        for (int k = 0; k < 4; k++) {
            due("a TEXT anew has its own", Checks.tell(x, TWO + first + "law turn 7;"), 4);
            due("64", x.count(3), 64);
            due("the first E", x.law(2, 0, 1, 0), 32);
            due("the second E", x.law(1, 0, 1, 0), 7);
        }
        for (int k = 0; k < 20; k++) {
            due("brackets that stay open", Checks.tell(x, "law rent (((((((("), -1);
        }
        for (String cut : new String[] {"1*", "1<", "1+(2=", "not ((((((((1", "(((((((("}) {
            due("an E cut off", Checks.tell(x, "law rent " + cut), -1);
            due("leaves nothing to the next one", Checks.tell(x, TWO + "law rent not 1<2;"
                    + "law turn ((((((((1))))))))=1;"), 4);
            due("the first E", x.law(0, 0, 1, 0), 0);
            due("the second E", x.law(1, 0, 1, 0), 1);
        }
    }

    private static void leastOfOnePlace() {
        EDGES.sentence(4, "the first along the text (of one place the least), with its place");
        String open = "law rent " + "1+".repeat(32);
        EDGES.fault(open + "not 1;", 1, open.length());
        EDGES.fault(open + ";", 1, open.length());
        EDGES.fault(open + "+", 1, open.length());
        EDGES.fault(open + "and 1", 1, open.length());
        EDGES.fault(open + "ann", 1, open.length());
        EDGES.fault(open, 1, open.length());
        EDGES.fault(open + "10000;", 2, open.length());
        String compared = "law rent not 1<" + "1+".repeat(30) + "1";
        EDGES.fine(compared + ";", 1);
        EDGES.fault(compared + "<1;", 1, compared.length());
        EDGES.fault(compared + "+1;", 2, compared.length());
        EDGES.fault(compared + " not 1;", 1, compared.length() + 1);
        EDGES.fault(Edges.SIX + "wear 1 man", 1, Edges.SIX.length() + 7);
        EDGES.fault("wear 1 wear 1;", 1, 7);
        EDGES.fault("law rent 1;law wear 1;", 1, 15);
        EDGES.fault("law rent 1 (((((((((", 1, 11);
    }

    private static void firstAlongTheText() {
        EDGES.sentence(4, "the first along the text");
        EDGES.fault("man a 100 100 100 1000?", 2, 6);
        EDGES.fault("man a 0 0 0 0;man a 100 ?", 3, 18);
        EDGES.fault("man abcdefg 100", 1, 4);
        EDGES.fault(TWO + "lease c c 100 0 100", 4, TWO.length() + 6);
        EDGES.fault(TWO + "lease a a 100 0 100", 5, TWO.length() + 8);
        EDGES.fault(TWO + "lease a b 100 0 100", 2, TWO.length() + 10);
        EDGES.fault("wear 101 wear 1;", 2, 5);
        EDGES.fault("wear 1;wear 101", 3, 7);
        EDGES.fault("law rent 1;law rent 10000", 3, 15);
        EDGES.fault("wear 101?", 2, 5);
        EDGES.fault("law rent 10000 10000;", 2, 9);
        EDGES.fault("law rent ((((((((((10000", 2, 17);
    }

    /** Each token of a LINE in place of which another one stands. */
    private static void wrongTokens(String ahead, String line) {
        String[] tokens = line.split(" ");
        for (int k = 0; k < tokens.length; k++) {
            StringBuilder text = new StringBuilder(ahead);
            for (int i = 0; i < k; i++) {
                text.append(tokens[i]).append(' ');
            }
            int place = text.length();
            for (String other : new String[] {"7", "or", ";", "(", ")", "<", "?", "\u00e9"}) {
                boolean fits = kind(other).equals(kind(tokens[k]));
                if (!fits) {
                    EDGES.fault(text + other + " 1 1 1 1;", 1, place);
                }
            }
        }
        String whole = ahead + line;
        for (String more : new String[] {" 7", " or", ";", "("}) {
            EDGES.fault(whole.substring(0, whole.length() - 1) + more + ";", 1,
                    whole.length() - 1 + (more.startsWith(" ") ? 1 : 0) + (more.equals(";") ? 1 : 0));
        }
    }

    private static String kind(String token) {
        return Character.isDigit(token.charAt(0)) ? "number" : token;
    }

    private static void wrongTokens() {
        EDGES.sentence(4, "1 a TOKEN that is none");
        for (String none : new String[] {"?", "A", "\t", "!", "{", "&", "\u00e9", "\u0000", "abcdefg"}) {
            EDGES.fault(none, 1, 0);
            EDGES.fault("man " + none + " 1 2 3 4;", 1, 4);
            EDGES.fault("man a 1" + none + " 2 3 4;", 1, 7);
            EDGES.fault("wear 1" + none + ";", 1, 6);
            EDGES.fault("law " + none + " 1;", 1, 4);
            EDGES.fault("law rent " + none + ";", 1, 9);
            EDGES.fault("law rent 1" + none + "2;", 1, 10);
            EDGES.fault("wear 1;" + none, 1, 7);
        }
        EDGES.sentence(4, "or can't stand there");
        wrongTokens("", "man x 1 2 3 4 ;");
        wrongTokens(TWO, "lease a b 1 2 3 ;");
        wrongTokens(TWO, "letter a b 1 ;");
        wrongTokens("", "wear 1 ;");
        wrongTokens("", "watch 1 ;");
        wrongTokens("", "seed 1 ;");
        for (String word : LANGUAGE) {
            boolean begins = "man lease letter wear watch seed law".contains(word);
            if (!begins) {
                EDGES.fault(word + " 1;", 1, 0);
            }
            if (!"rent turn fine".contains(word)) {
                EDGES.fault("law " + word + " 1;", 1, 4);
            }
        }
        EDGES.fault(";", 1, 0);
        EDGES.fault("law;", 1, 3);
        EDGES.fault("law ;", 1, 4);
        EDGES.fault("man;", 1, 3);
        EDGES.fault("wear;", 1, 4);
        EDGES.fault("wear 1;;", 1, 7);
        EDGES.fault("law rent ;", 1, 9);
        EDGES.fault("law rent ();", 1, 10);
        EDGES.fault("law rent 1);", 1, 10);
        EDGES.fault("law rent (1;", 1, 11);
        EDGES.fault("law rent (1));", 1, 12);
        EDGES.fault("law rent 1(2);", 1, 10);
        EDGES.fault("law rent (1)(2);", 1, 12);
        EDGES.fault("law rent (1)2;", 1, 12);
        EDGES.fault("law rent 1 day;", 1, 11);
        EDGES.fault("law rent not;", 1, 12);
        EDGES.fault("law rent not not;", 1, 16);
        EDGES.fault("law rent not and 1;", 1, 13);
        EDGES.fault("law rent 1 and or 1;", 1, 15);
        EDGES.fault("law rent 1+not 1;", 1, 11);
        EDGES.fault("law rent 1*not 1;", 1, 11);
        EDGES.fault("law rent 1=not 1;", 1, 11);
        EDGES.fault("law rent not 1 not;", 1, 15);
        EDGES.fine("law rent 1+(not 1)*(not not 2);law turn not(not(1));law fine 1 and not 1 or not 2;", 3);
    }

    private static void moreMustCome(String ahead, String line) {
        String[] tokens = line.split(" ");
        StringBuilder text = new StringBuilder(ahead);
        for (int k = 0; k < tokens.length - 1; k++) {
            text.append(tokens[k]);
            EDGES.fault(text.toString(), 1, text.length());
            text.append(' ');
            EDGES.fault(text.toString(), 1, text.length());
            EDGES.fault(text + "\n \n", 1, text.length() + 3);
        }
        EDGES.fine(text + tokens[tokens.length - 1], ahead.split(";").length + (ahead.isEmpty() ? 0 : 1));
    }

    private static void moreMustCome() {
        EDGES.sentence(4, "(the length, if more must come)");
        moreMustCome("", "man x 1 2 3 4 ;");
        moreMustCome(TWO, "lease a b 1 2 3 ;");
        moreMustCome(TWO, "letter a b 1 ;");
        moreMustCome("", "wear 1 ;");
        moreMustCome("", "watch 1 ;");
        moreMustCome("", "seed 1 ;");
        moreMustCome("", "law rent not ( 1 + slant ) < 2 and 3 or day * 4 ;");
        moreMustCome("", "law turn 1 ;");
        moreMustCome("", "law fine ( 1 ) ;");
    }

    private static void comparisons() {
        EDGES.sentence(4, "A = (or > behind <) right behind < or > belongs to it");
        for (String joint : JOINTS) {
            EDGES.fine("law rent 1" + joint + "2;", 1);
            EDGES.fine("law rent 1 " + joint + "\n2;", 1);
        }
        EDGES.fault("law rent 1< =2;", 1, 12);
        EDGES.fault("law rent 1> =2;", 1, 12);
        EDGES.fault("law rent 1< >2;", 1, 12);
        EDGES.fault("law rent 1<\n=2;", 1, 12);
        EDGES.fault("law rent 1=<2;", 1, 11);
        EDGES.fault("law rent 1=>2;", 1, 11);
        EDGES.fault("law rent 1==2;", 1, 11);
        EDGES.fault("law rent 1><2;", 1, 11);
        EDGES.fault("law rent 1>>2;", 1, 11);
        EDGES.fault("law rent 1<<2;", 1, 11);
        EDGES.fault("law rent 1<==2;", 1, 12);
        EDGES.fault("law rent 1<>=2;", 1, 12);
        EDGES.fault("law rent 1<>>2;", 1, 12);
        EDGES.fault("law rent 1>==2;", 1, 12);
        EDGES.fault("law rent 1>=>2;", 1, 12);
        EDGES.fault("law rent 1<2<3;", 1, 12);
        EDGES.fault("law rent 1=2>=3;", 1, 12);
        EDGES.fault("law rent 1<2+3*4=5;", 1, 16);
        EDGES.fine("law rent (1<2)<3;law turn 1<(2<3);law fine 1<2 and 2<3 or not 3<4;", 3);
        HandsLet x = new HandsLet();
        x.feed(0x6C617720, 0x72656E74, 0x20313C3D, 0x323B2020, 0x20202020);
        due("law rent 1<, the = isn't one of the bytes", x.text(11), -1);
        due("at the length", x.fault(1), 11);
    }

    private static void toldAlready() {
        EDGES.sentence(4, "3 told already: a name (at W), wear, watch, seed (at the word), a law of its RULE "
                + "(at RULE)");
        EDGES.fault("man a 0 0 0 0;man a 0 0 0 0;", 3, 18);
        EDGES.fault("man abcdef 0 0 0 0;man abcdef", 3, 23);
        EDGES.fine("man abcdef 0 0 0 0;man abcdee 0 0 0 0;man abcde 0 0 0 0;man aabcd 0 0 0 0;", 4);
        for (String word : new String[] {"wear", "watch", "seed"}) {
            EDGES.fault(word + " 1;" + word + " 1;", 3, word.length() + 3);
            EDGES.fault(word + " 1;" + word, 3, word.length() + 3);
            EDGES.fault(word + " 20;" + TWO + word + " 0;", 3, word.length() + 4 + TWO.length());
        }
        for (String rule : new String[] {"rent", "turn", "fine"}) {
            EDGES.fault("law " + rule + " 1;law " + rule + " 1;", 3, 15);
            EDGES.fault("law " + rule + " 1;law " + rule, 3, 15);
        }
        EDGES.fine("law fine 1;law turn 1;law rent 1;", 3);
        HandsLet x = EDGES.told("man a 0 0 0 0;wear 1;watch 1;seed 1;law rent 1;law turn 1;law fine 1;");
        due("told by an earlier TEXT is not told", Checks.tell(x,
                "man a 0 0 0 0;wear 1;watch 1;seed 1;law rent 1;law turn 1;law fine 1;"), 7);
    }

    private static void notToldAhead() {
        EDGES.sentence(4, "4 a PERSON that isn't told ahead (at W)");
        EDGES.fault("lease a b 0 1 0;" + TWO, 4, 6);
        EDGES.fault("letter a a 0;" + TWO, 4, 7);
        EDGES.fault("man a 0 0 0 0;lease a b 0 1 0;man b 0 0 0 0;", 4, 22);
        EDGES.fault("man a 0 0 0 0;letter b a 0;man b 0 0 0 0;", 4, 21);
        EDGES.fault("man a 0 0 0 0;letter a b 0;man b 0 0 0 0;", 4, 23);
        EDGES.fault("man abcdef 0 0 0 0;letter abcde abcdef 0;", 4, 26);
        HandsLet x = EDGES.told(TWO);
        due("told by an earlier TEXT isn't told", Checks.tell(x, "letter a a 0;"), -1);
        due("at W", x.fault(1), 7);
    }

    private static void toTheOwner() {
        EDGES.sentence(4, "5 a LEASE to the owner (at the second W)");
        EDGES.fault(TWO + "lease a a 0 1 0;", 5, TWO.length() + 8);
        EDGES.fault(TWO + "lease b b", 5, TWO.length() + 8);
        EDGES.fault("lease a a 0 1 0;", 4, 6);
        EDGES.fine(TWO + "lease a b 0 1 0;lease b a 0 1 0;letter a a 0;", 5);
    }

    private static void faultAsked() {
        EDGES.sentence(4, "Of the latest text() that was not -2, what 0: its FAULT (0), 1: its place (NONE without)");
        HandsLet x = new HandsLet();
        due("without a text()", x.fault(0), 0);
        due("without a text(), its place", x.fault(1), -1);
        x.text(1);
        due("behind -2 alone", x.fault(0), 0);
        due("behind -2 alone, its place", x.fault(1), -1);
        Checks.tell(x, "wear 101;");
        due("2", x.fault(0), 2);
        due("2, its place", x.fault(1), 5);
        x.text(-1);
        x.text(1);
        due("behind -2", x.fault(0), 2);
        due("behind -2, its place", x.fault(1), 5);
        Checks.tell(x, "?");
        due("another one", x.fault(0), 1);
        due("another one, its place", x.fault(1), 0);
        Checks.tell(x, "wear 100;");
        due("none", x.fault(0), 0);
        due("none, its place", x.fault(1), -1);
        Checks.tell(x, "?");
        x.text(0);
        due("a TEXT without LINES has none", x.fault(0), 0);
        EDGES.sentence(4, "NONE for another what");
        Checks.tell(x, "wear 101;");
        for (int what : new int[] {-1, 2, 3, Integer.MIN_VALUE, Integer.MAX_VALUE}) {
            due("fault(" + what + ")", x.fault(what), -1);
        }
    }

    private static void named() {
        EDGES.sentence(5, "5 bits each (a is 1; the first one highest of six, 0 behind the last one)");
        HandsLet x = EDGES.told("man zzzzzz 0 0 0 0;man a 0 0 0 0;man aaaaaa 0 0 0 0;man ab 0 0 0 0;man z 0 0 0 0;");
        due("zzzzzz", x.named(26 << 25 | 26 << 20 | 26 << 15 | 26 << 10 | 26 << 5 | 26), 0);
        due("a", x.named(1 << 25), 1);
        due("aaaaaa", x.named(1 << 25 | 1 << 20 | 1 << 15 | 1 << 10 | 1 << 5 | 1), 2);
        due("ab", x.named(1 << 25 | 2 << 20), 3);
        due("z", x.named(26 << 25), 4);
        EDGES.sentence(5, "NONE: there is none such");
        due("none of letters", x.named(0), -1);
        due("a at the end", x.named(1), -1);
        due("a second", x.named(1 << 20), -1);
        due("a with a gap", x.named(1 << 25 | 2 << 15), -1);
        due("b", x.named(2 << 25), -1);
        due("ab and 0 and a", x.named(1 << 25 | 2 << 20 | 1), -1);
        due("27 is no letter", x.named(27 << 25), -1);
        due("31", x.named(31 << 25), -1);
        due("a bit above six letters", x.named(1 << 30 | 1 << 25), -1);
        due("the highest bit, too", x.named(1 << 31 | 1 << 25), -1);
        due("-1", x.named(-1), -1);
        due("least", x.named(Integer.MIN_VALUE), -1);
        due("most", x.named(Integer.MAX_VALUE), -1);
        Checks.tell(x, "man b 0 0 0 0;man c");
        due("a draft's name isn't there", x.named(2 << 25), -1);
        due("all stays", x.named(26 << 25), 4);
        Checks.tell(x, "man b 0 0 0 0;");
        due("the new one", x.named(2 << 25), 0);
        due("an earlier one is gone", x.named(1 << 25), -1);
        due("of none", new HandsLet().named(1 << 25), -1);
    }
}
