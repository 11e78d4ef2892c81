/** Each promise by answers worked out by hand: ordinary inputs, the edges that the document names, wrong inputs. */
public final class PromisesTest {
    private static final Checks CHECKS = new Checks();
    private static final long ERROR = Long.MIN_VALUE;

    /** Two who let and one who forges; the bank always looks. */
    private static final String THREE = "man ann 10 20 30 50;man bo 50 20 10 40;man cy 10 21 30 5;";
    private static final String STORY = THREE + "lease ann bo 0 2 15;lease ann cy 1 3 1;lease bo ann 3 4 60;"
            + "letter bo ann 1;letter ann ann 1;letter cy bo 2;wear 50;watch 100;";
    private static final String TWO = "man a 0 0 0 100;man b 99 99 99 100;";
    private static final String SIX = "man a 0 0 0 9;man b 1 0 0 9;man c 2 0 0 9;man d 3 0 0 9;man e 4 0 0 9;"
            + "man f 5 0 0 9;";

    public static void main(String[] args) {
        newObject();
        feed();
        text();
        faultsOfTokens();
        faultsOfMeasure();
        faultsOfNames();
        named();
        hand();
        man();
        letter();
        lawValues();
        lawErrors();
        let();
        end();
        teach();
        go();
        goOrder();
        numbers();
        ahead();
        free();
        apart();
        like();
        could();
        match();
        auction();
        putOff();
        ring();
        lessons();
        rests();
        quiet();
        seeAndStrike();
        known();
        wears();
        ask();
        chance();
        tried();
        undo();
        images();
        count();
        CHECKS.finish();
    }

    private static void due(String what, long got, long want) {
        CHECKS.due(what, got, want);
    }

    private static HandsLet told(String text) {
        return Checks.told(text);
    }

    /** Tells a text to a new object that is to have this FAULT at this place. */
    private static void fault(String text, int kind, int place) {
        HandsLet x = new HandsLet();
        due("text of " + text, Checks.tell(x, text), -1);
        due("fault(0) of " + text, x.fault(0), kind);
        due("fault(1) of " + text, x.fault(1), place);
    }

    private static void fine(String text, int lines) {
        HandsLet x = new HandsLet();
        due("text of " + text, Checks.tell(x, text), lines);
        due("fault(0) of " + text, x.fault(0), 0);
        due("fault(1) of " + text, x.fault(1), -1);
    }

    private static void newObject() {
        HandsLet x = new HandsLet();
        for (int what = 0; what <= 13; what++) {
            due("new count(" + what + ")", x.count(what), 0);
        }
        due("new fault(0)", x.fault(0), 0);
        due("new fault(1)", x.fault(1), -1);
        due("new text(1)", x.text(1), -2);
        due("new hand(0, 0)", Checks.hand(x, 0, 0), Checks.NO_HAND);
        due("new man(0, 0)", x.man(0, 0), -1);
        due("new letter(0, 0)", x.letter(0, 0), -1);
        due("new wears()", x.wears(), 2047);
        due("new back()", x.back(), -1);
        due("new undo()", x.undo(), -1);
        due("new quiet(6, 1)", x.quiet(6, 1), 1);
        due("NONE", HandsLet.NONE, -1);
    }

    private static void feed() {
        HandsLet x = new HandsLet();
        for (int k = 1; k <= 35; k++) {
            due("feed " + k, x.feed(0x20202020, 0x20202020, 0x20202020, 0x20202020, 0x20202020), 20 * k);
        }
        due("feed beyond 700", x.feed(1, 2, 3, 4, 5), -1);
        due("all 700 are blanks yet", x.text(700), 0);
        due("feed behind text", x.feed(0x77656172, 0x20373B20, -1, -1, -1), 20);
        due("the highest byte is first: wear 7;", x.text(8), 1);
        due("feed of bytes above 127", x.feed(-1, 0, 0, 0, 0), 20);
        due("they are no tokens", x.text(20), -1);
        due("at once", x.fault(1), 0);
    }

    private static void text() {
        fine("", 0);
        fine(" \n ", 0);
        fine(STORY, 11);
        fine("man a 0 0 0 0;man abcdef 99 99 99 999;lease a abcdef 99 99 99;letter abcdef abcdef 99;", 4);
        fine("wear 100;watch 100;seed 99999;", 3);
        fine("wear 0;watch 0;seed 0;", 3);
        fine("man\na 00 0000001 2 3 ;", 1);
        fine("man a1 2 3 4;", 1);
        fine("law rent not not not 1;", 1);
        fine("law rent ((((((((9999))))))));law fine(1)<(2);", 2);
        fine("law rent 1<=2;law turn 1<>2;law fine 1>=2;", 3);
        HandsLet x = told(STORY);
        x.go(2);
        x.keep();
        x.let(1, 2, 3, 0);
        x.see(1, 0, 0, 1, true);
        x.known(1);
        due("a fault", Checks.tell(x, "man"), -1);
        due("all stays: the DAY", x.count(4), 2);
        due("all stays: PEOPLE", x.count(0), 3);
        due("all stays: SEEN", x.count(11), 1);
        due("all stays: KNOWN", x.count(12), 1);
        due("all stays: to undo", x.count(13), 1);
        due("all stays: the IMAGE", x.back(), 2);
        due("the TAPE is empty", x.text(1), -2);
        due("n below 0", x.text(-1), -2);
        due("the latest that was not -2", x.fault(0), 1);
        x.let(1, 2, 3, 0);
        due("a text anew", Checks.tell(x, "man a 1 2 3 4;"), 1);
        due("anew: the DAY", x.count(4), 0);
        due("anew: LET", x.count(5), 0);
        due("anew: FORGED", x.count(7), 0);
        due("anew: SEEN", x.count(11), 0);
        due("anew: KNOWN", x.count(12), 0);
        due("anew: to undo", x.count(13), 0);
        due("anew: the IMAGE", x.back(), -1);
        due("anew: fault(0)", x.fault(0), 0);
        x.feed(0x77656172, 0x20373B20, 0, 0, 0);
        due("too many: the TAPE stays", x.text(21), -2);
        due("its first 7 bytes", x.text(7), 1);
        HandsLet part = new HandsLet();
        part.feed(0x6C617720, 0x72656E74, 0x20313C3D, 0x323B2020, 0x20202020);
        due("law rent 1<, but not the = behind it", part.text(11), -1);
        due("more must come at the length", part.fault(1), 11);
        textAnew();
    }

    /** Nothing of an earlier text is left. */
    private static void textAnew() {
        HandsLet x = told(TWO + "letter a b 0;wear 90;watch 100;seed 7;law rent 3;law turn 4;law fine 5;");
        x.go(1);
        due("written", x.letter(0, 5), 1);
        due("anew", Checks.tell(x, "man a 1 0 0 4;letter a a 0;"), 2);
        due("not written", x.letter(0, 3), 0);
        due("not found", x.letter(0, 5), 0);
        due("purses in sum", x.count(6), 4);
        due("no KNOTS", x.count(3), 0);
        due("watch", x.quiet(1, 0), 1);
        for (int what = 0; what < 3; what++) {
            due("no law " + what, x.law(what, 0, 0, 0), ERROR);
        }
        due("anew", Checks.tell(x, "man a 0 0 0 4;man b 50 0 0 4;"), 2);
        x.let(0, 1, 1, 0);
        x.end(0);
        due("wear", Checks.hand(x, 0, 0), 10000);
    }

    private static void faultsOfTokens() {
        fault("?", 1, 0);
        fault(" ;", 1, 1);
        fault("man", 1, 3);
        fault("man a 1 2 3 4", 1, 13);
        fault("man a 1 2 3 4 \n ", 1, 16);
        fault("man a 1 2 3;", 1, 11);
        fault("man a 1 2 3 4 5;", 1, 14);
        fault("man 1 2 3 4;", 1, 4);
        fault("man slant 1 2 3 4;", 1, 4);
        fault("man man 1 2 3 4;", 1, 4);
        fault("man abcdefg 1 2 3 4;", 1, 4);
        fault("man A 1 2 3 4;", 1, 4);
        fault("man a\t1 2 3 4;", 1, 5);
        fault("who a 1 2 3 4;", 1, 0);
        fault("wear;", 1, 4);
        fault("wear x;", 1, 5);
        fault("law;", 1, 3);
        fault("law wear 1;", 1, 4);
        fault("law law 1;", 1, 4);
        fault("law or 1;", 1, 4);
        fault("law day 1;", 1, 4);
        fault("law rent;", 1, 8);
        fault("law rent 1", 1, 10);
        fault("law rent 1 2;", 1, 11);
        fault("law rent (1;", 1, 11);
        fault("law rent 1);", 1, 10);
        fault("law rent ();", 1, 10);
        fault("law rent 1+;", 1, 11);
        fault("law rent -1;", 1, 9);
        fault("law rent 1<2<3;", 1, 12);
        fault("law rent 1<2+3=3;", 1, 14);
        fault("law rent not 1<2<3;", 1, 16);
        fault("law rent 1< =2;", 1, 12);
        fault("law rent 1=<2;", 1, 11);
        fault("law rent 1> >2;", 1, 12);
        fault("law rent 1+not 2;", 1, 11);
        fault("law rent 1<not 2;", 1, 11);
        fault("law rent 1 not 2;", 1, 11);
        fault("law rent ann;", 1, 9);
        fault("law rent rent;", 1, 9);
        fault("law rent weights;", 1, 9);
        fault("law rent 1+(2<3;", 1, 15);
        fault("letter a;", 4, 7);
        fault("man a 1 1 1 1;letter a;", 1, 22);
    }

    private static String repeated(String part, int times) {
        return part.repeat(times);
    }

    private static void faultsOfMeasure() {
        fault("man a 100 0 0 0;", 2, 6);
        fault("man a 0 0 0 1000;", 2, 12);
        fault("man a 99999999999999999999999999 0 0 0;", 2, 6);
        fault(TWO + "lease a b 100 1 1;", 2, TWO.length() + 10);
        fault(TWO + "lease a b 0 0 1;", 2, TWO.length() + 12);
        fault(TWO + "lease a b 0 100 1;", 2, TWO.length() + 12);
        fault(TWO + "lease a b 0 1 100;", 2, TWO.length() + 14);
        fault(TWO + "letter a b 100;", 2, TWO.length() + 11);
        fault("wear 101;", 2, 5);
        fault("watch 101;", 2, 6);
        fault("seed 100000;", 2, 5);
        fault("law rent 10000;", 2, 9);
        fault(SIX + "man", 2, SIX.length());
        fine(TWO + repeated("lease a b 1 1 1;", 10), 12);
        fault(TWO + repeated("lease a b 1 1 1;", 10) + "lease", 2, TWO.length() + 160);
        fine(TWO + repeated("letter a b 1;", 12), 14);
        fault(TWO + repeated("letter a b 1;", 12) + "letter ?", 2, TWO.length() + 156);
        fine("law rent ((((((((1))))))))+((((((((1))))))));", 1);
        fault("law rent (((((((((1)))))))));", 2, 17);
        String knots63 = "1" + repeated("+1", 31);
        fine("law rent " + knots63 + ";law turn 1;", 2);
        fault("law rent " + knots63 + ";law turn 1+", 2, 9 + 63 + 1 + 9 + 1);
        fault("law rent " + knots63 + ";law turn not 1;", 2, 9 + 63 + 1 + 9 + 4);
        fault("law rent " + knots63 + ";law turn 1;law fine day;", 2, 9 + 63 + 1 + 11 + 9);
        fault("law rent " + knots63 + ";law turn 1;law fine ;", 1, 9 + 63 + 1 + 11 + 9);
        fault("law rent " + repeated("not ", 64) + "1;", 2, 9 + 256);
        fine("law rent " + repeated("not ", 63) + "1;", 1);
    }

    private static void faultsOfNames() {
        fault("man a 0 0 0 0;man a ?", 3, 18);
        fault("wear 1;wear", 3, 7);
        fault("watch 1;watch", 3, 8);
        fault("seed 1;seed", 3, 7);
        fault("law fine 1;law fine", 3, 15);
        fault("lease a a 1 1 1;", 4, 6);
        fault(TWO + "lease c a 1 1 1;", 4, TWO.length() + 6);
        fault(TWO + "lease a c 1 1 1;", 4, TWO.length() + 8);
        fault(TWO + "letter c a 1;", 4, TWO.length() + 7);
        fault(TWO + "letter a c 1;", 4, TWO.length() + 9);
        fault(TWO + "lease b b 1 1 1;", 5, TWO.length() + 8);
        fault("letter a a 1;man a 0 0 0 0;", 4, 7);
        fine(TWO + "letter a a 1;", 3);
        HandsLet x = told(TWO);
        due("fault(2)", x.fault(2), -1);
        due("fault(-1)", x.fault(-1), -1);
    }

    private static void named() {
        HandsLet x = told("man abcdef 0 0 0 0;man z 0 0 0 0;man ab 0 0 0 0;");
        due("abcdef", x.named(1 << 25 | 2 << 20 | 3 << 15 | 4 << 10 | 5 << 5 | 6), 0);
        due("z", x.named(26 << 25), 1);
        due("ab", x.named(1 << 25 | 2 << 20), 2);
        due("a", x.named(1 << 25), -1);
        due("no letters", x.named(0), -1);
        due("below 0", x.named(-1), -1);
        due("ab, low", x.named(1 << 5 | 2), -1);
    }

    private static void hand() {
        HandsLet x = told(STORY);
        due("slant", Checks.hand(x, 1, 0), 50000);
        due("loops", Checks.hand(x, 1, 1), 20000);
        due("weight", Checks.hand(x, 1, 2), 10000);
        due("no tenant", Checks.hand(x, 1, 3), -2);
        due("no days", Checks.hand(x, 1, 4), 0);
        due("times", Checks.hand(x, 1, 5), 0);
        due("the owner holds it", Checks.hand(x, 1, 6), 1);
        x.let(1, 0, 7, 3);
        due("tenant", Checks.hand(x, 1, 3), 0);
        due("days", Checks.hand(x, 1, 4), 7);
        due("times while LET", Checks.hand(x, 1, 5), 0);
        due("the tenant holds it", Checks.hand(x, 1, 6), 0);
        due("no such hand", Checks.hand(x, 3, 0), Checks.NO_HAND);
        due("no such hand, no such what", Checks.hand(x, -1, 9), Checks.NO_HAND);
        due("what 7", Checks.hand(x, 0, 7), Checks.NO_WHAT);
        due("what -1", Checks.hand(x, 0, -1), Checks.NO_WHAT);
    }

    private static void man() {
        HandsLet x = told(STORY);
        due("slant", x.man(2, 0), 10);
        due("loops", x.man(2, 1), 21);
        due("weight", x.man(2, 2), 30);
        due("purse", x.man(2, 3), 5);
        due("hands", x.man(2, 4), 4);
        due("forged", x.man(2, 5), 0);
        x.go(1);
        due("paid", x.man(1, 3), 25);
        due("was paid", x.man(0, 3), 65);
        due("holds two", x.man(1, 4), 3);
        due("holds none", x.man(0, 4), 0);
        x.go(2);
        due("forged one", x.man(2, 5), 1);
        due("forged one in his own hand", x.man(0, 5), 1);
        due("wrote a good one", x.man(1, 5), 0);
        due("no such man", x.man(3, 0), -1);
        due("man -1", x.man(-1, 0), -1);
        due("what 6", x.man(0, 6), -1);
        due("what -1", x.man(0, -1), -1);
    }

    private static void letter() {
        HandsLet x = told(STORY);
        due("writer", x.letter(2, 0), 2);
        due("hand", x.letter(2, 1), 1);
        due("day", x.letter(2, 2), 2);
        due("not written", x.letter(2, 3), 0);
        due("not written, no slant", x.letter(2, 6), -2);
        due("not written, no weight", x.letter(2, 8), -2);
        x.go(3);
        due("good", x.letter(0, 3), 1);
        due("good: as the hand was, not as it came back", x.letter(0, 6), 10000);
        due("forged", x.letter(2, 3), 2);
        due("half slant", x.letter(2, 6), 30000);
        due("half loops", x.letter(2, 7), 20500);
        due("half weight", x.letter(2, 8), 20000);
        due("the first one doesn't clash", x.letter(0, 4), 0);
        due("the second one does", x.letter(1, 4), 1);
        due("good ones aren't found", x.letter(0, 5), 0);
        due("found", x.letter(1, 5), 1);
        due("what 9", x.letter(0, 9), -1);
        due("what -1", x.letter(0, -1), -1);
        due("letter 3", x.letter(3, 0), -1);
        due("letter -1", x.letter(-1, 0), -1);
        HandsLet odd = told("man a 0 0 0 0;man b 0 0 0 0;man c 3 5 7 0;letter b a 2;letter c a 2;"
                + "letter a a 2;law turn 333;");
        odd.let(0, 2, 1, 0);
        odd.go(3);
        due("hand came back: 3000 by 333 by 1000", Checks.hand(odd, 0, 0), 999);
        due("half of 999 and 0, cut", odd.letter(0, 6), 499);
        due("half of 1665, cut", odd.letter(0, 7), 832);
        due("the third one clashes, too", odd.letter(2, 4), 1);
        due("it is good all the same", odd.letter(2, 3), 1);
        HandsLet others = told(TWO + "letter a a 1;letter b b 1;letter a a 2;");
        others.go(3);
        due("not with another HAND's, nor on another DAY", others.count(8), 0);
        due("clashes", odd.count(8), 2);
        due("forged", odd.count(7), 2);
    }

    private static void lawOf(String e, long want) {
        HandsLet x = told("man a 8 1 2 99;man b 3 4 5 20;law rent " + e + ";");
        due(e, x.law(0, 0, 1, 7), want);
    }

    private static void lawValues() {
        lawOf("slant", 8);
        lawOf("loops", 1);
        lawOf("weight", 2);
        lawOf("purse", 20);
        lawOf("price", 7);
        lawOf("times", 0);
        lawOf("day", 0);
        lawOf("2+3*4", 14);
        lawOf("(2+3)*4", 20);
        lawOf("10-3-2", 5);
        lawOf("100/10/3", 3);
        lawOf("7/2*2", 6);
        lawOf("(3-10)/2", -3);
        lawOf("1+1<3", 1);
        lawOf("3<1+1", 0);
        lawOf("2<2", 0);
        lawOf("2>2", 0);
        lawOf("2>=2", 1);
        lawOf("1 and 1", 1);
        lawOf("2<=2", 1);
        lawOf("3=3", 1);
        lawOf("3<>3", 0);
        lawOf("2>=3", 0);
        lawOf("3>2", 1);
        lawOf("5 and 7", 1);
        lawOf("5 and 0", 0);
        lawOf("0 or 9", 1);
        lawOf("0 or 0", 0);
        lawOf("not 5", 0);
        lawOf("not not 5", 1);
        lawOf("not 1=2", 1);
        lawOf("not 0 and 0", 0);
        lawOf("not (0 and 0)", 1);
        lawOf("1 or 1 and 0", 1);
        lawOf(repeated("not ", 63) + "0", 1);
        lawOf("1" + repeated("+1", 31), 32);
        lawOf("(1 or 1) and 0", 0);
        lawOf("(1<2)=(1=1)", 1);
    }

    private static void lawErrors() {
        lawOf("1/0", ERROR);
        lawOf("1 or 1/0", ERROR);
        lawOf("0 and 1/(3-3)", ERROR);
        lawOf("1000*1000*1000*1000", 1000000000000L);
        lawOf("1000*1000*1000*1000+0", 1000000000000L);
        lawOf("1000*1000*1000*1000+1", ERROR);
        lawOf("0-1000*1000*1000*1000", -1000000000000L);
        lawOf("0-1000*1000*1000*1000-1", ERROR);
        lawOf("(1000*1000*1000*1000+1)*0", ERROR);
        lawOf("1000*1000*1000*1000*(1000*1000*1000*1000)", ERROR);
        lawOf("(0-1000*1000*1000*1000)*(1000*1000*1000*1000)", ERROR);
        lawOf("1000*1000*1000*1000*0", 0);
        lawOf("1000*1000*1000*1000/3", 333333333333L);
        HandsLet x = told("man a 8 1 2 99;man b 3 4 5 20;law turn price;law fine purse+slant;");
        due("no law", x.law(0, 0, 1, 7), ERROR);
        due("of turn the price is 0", x.law(1, 0, 1, 7), 0);
        due("and isn't looked at", x.law(1, 0, 1, -7), 0);
        due("of fine neither", x.law(2, 0, 1, 100), 28);
        due("of the owner", x.law(2, 0, 0, 0), 107);
        due("no such hand", x.law(2, 2, 1, 0), ERROR);
        due("no such man", x.law(2, 0, -1, 0), ERROR);
        due("no such what", x.law(3, 0, 1, 0), ERROR);
        due("what -1", x.law(-1, 0, 1, 0), ERROR);
        HandsLet rent = told(TWO + "law rent price;");
        due("price 99", rent.law(0, 0, 1, 99), 99);
        due("price 100", rent.law(0, 0, 1, 100), ERROR);
        due("price -1", rent.law(0, 0, 1, -1), ERROR);
    }

    private static void let() {
        HandsLet x = told(TWO + "man c 1 1 1 0;");
        due("let", x.let(0, 1, 5, 99), 1);
        due("the owner's purse", x.man(0, 3), 199);
        due("LET already", x.let(0, 2, 5, 0), -2);
        due("purse too small", x.let(1, 2, 1, 1), -2);
        due("not counted as refused", x.count(10), 0);
        due("for nothing", x.let(1, 2, 99, 0), 0);
        due("the owner", x.let(2, 2, 1, 1), -1);
        due("the owner of one that is LET", x.let(0, 0, 1, 1), -1);
        due("0 days", x.let(2, 0, 0, 1), -1);
        due("100 days", x.let(2, 0, 100, 1), -1);
        due("price 100", x.let(2, 0, 1, 100), -1);
        due("price -1", x.let(2, 0, 1, -1), -1);
        due("no such hand", x.let(3, 0, 1, 1), -1);
        due("no such man", x.let(2, 3, 1, 1), -1);
        due("man -1", x.let(2, -1, 1, 1), -1);
        HandsLet law = told(TWO + "law rent price*price-50;");
        due("0 at least", law.let(0, 1, 1, 7), 100);
        due("by the law", law.let(1, 0, 1, 9), 69);
        law.end(1);
        due("by the law, too dear", law.let(1, 0, 1, 11), -2);
        HandsLet rich = told("man a 0 0 0 999;man b 0 0 0 999;law rent 9999;");
        due("999 at most", rich.let(0, 1, 1, 0), 0);
        due("the owner has it", rich.man(0, 3), 1998);
        HandsLet error = told(TWO + "law rent 5/0;");
        due("with an ERROR the price", error.let(0, 1, 1, 30), 70);
    }

    private static void end() {
        HandsLet x = told("man a 10 50 0 100;man b 21 29 1 100;man c 0 0 0 0;wear 50;");
        due("not LET", x.end(0), -2);
        due("no such hand", x.end(3), -1);
        due("hand -1", x.end(-1), -1);
        x.let(0, 1, 9, 0);
        due("back", x.end(0), 1);
        due("half of the way up", Checks.hand(x, 0, 0), 15500);
        due("half of the way down", Checks.hand(x, 0, 1), 39500);
        due("weight", Checks.hand(x, 0, 2), 500);
        due("free now", Checks.hand(x, 0, 3), -2);
        due("no days", Checks.hand(x, 0, 4), 0);
        x.let(0, 1, 9, 0);
        due("back again", x.end(0), 2);
        due("a half of a half", Checks.hand(x, 0, 0), 18250);
        HandsLet plain = told("man a 10 0 0 0;man b 20 0 0 0;");
        plain.let(0, 1, 1, 0);
        plain.end(0);
        due("wear is 20 without", Checks.hand(plain, 0, 0), 12000);
        HandsLet law = told("man a 10 0 0 0;man b 20 0 0 7;law turn times*100+purse;");
        law.let(0, 1, 1, 0);
        law.end(0);
        due("times as it was, purse of the tenant", Checks.hand(law, 0, 0), 10070);
        law.let(0, 1, 1, 0);
        law.end(0);
        due("times 1: 9930 by 107 by 1000, cut", Checks.hand(law, 0, 0), 11132);
        HandsLet once = told("man a 10 10 10 0;man b 30 30 30 0;law turn slant*50;");
        once.let(0, 1, 1, 0);
        once.end(0);
        due("one E for all three", Checks.hand(once, 0, 2), 20000);
        HandsLet most = told("man a 10 0 0 0;man b 20 0 0 0;law turn 9999;");
        most.let(0, 1, 1, 0);
        most.end(0);
        due("1000 at most", Checks.hand(most, 0, 0), 20000);
        HandsLet down = told("man a 10 0 0 0;man b 9 0 0 0;law turn 1;");
        down.let(0, 1, 1, 0);
        down.end(0);
        down.let(0, 1, 1, 0);
        down.end(0);
        due("999 by 1 by 1000 moves nothing", Checks.hand(down, 0, 0), 9999);
        HandsLet error = told("man a 10 0 0 0;man b 20 0 0 0;wear 30;law turn 1/0;");
        error.let(0, 1, 1, 0);
        error.end(0);
        due("with an ERROR ten times wear", Checks.hand(error, 0, 0), 13000);
    }

    private static void teach() {
        HandsLet x = told("man a 10 50 0 100;man b 21 29 1 100;wear 50;");
        due("moves nothing", x.teach(0), 0);
        due("can be undone", x.count(13), 1);
        x.let(0, 1, 9, 0);
        due("LET", x.teach(0), -2);
        x.end(0);
        due("halves", x.teach(0), 2750 + 5250 + 250);
        due("down to the owner", Checks.hand(x, 0, 0), 12750);
        due("up to the owner", Checks.hand(x, 0, 1), 44750);
        x.teach(0);
        due("half of 2750", Checks.hand(x, 0, 0), 11375);
        x.teach(0);
        due("half of 1375, cut: 687", Checks.hand(x, 0, 0), 10688);
        due("no such hand", x.teach(2), -1);
        due("hand -1", x.teach(-1), -1);
    }

    private static void go() {
        HandsLet x = told(STORY);
        due("go 0", x.go(0), 0);
        due("go -1", x.go(-1), -1);
        due("go 201", x.go(201), -1);
        due("nothing happened", x.count(4), 0);
        due("day 0", x.go(1), 1);
        due("bo has ann's", Checks.hand(x, 0, 3), 1);
        due("for a day yet", Checks.hand(x, 0, 4), 1);
        due("day 1", x.go(1), 2);
        due("cy was refused", x.count(10), 1);
        due("it came back", Checks.hand(x, 0, 3), -2);
        due("half way to bo", Checks.hand(x, 0, 0), 30000);
        due("loops alike", Checks.hand(x, 0, 1), 20000);
        due("once", Checks.hand(x, 0, 5), 1);
        due("ann's fine", x.man(0, 3), 55);
        due("day 2", x.go(1), 3);
        due("cy's fine leaves 0", x.man(2, 3), 0);
        due("day 3", x.go(1), 4);
        due("ann can't pay 60", x.count(10), 2);
        HandsLet far = told("");
        for (int k = 1; k <= 49; k++) {
            due("far", far.go(200), 200 * k);
        }
        due("behind 9800", far.go(1), -1);
        due("the last DAY", far.go(0), 9800);
        due("stays", far.count(4), 9800);
    }

    /** (1) to (4) of a DAY in their order, and by their numbers. */
    private static void goOrder() {
        HandsLet one = told("man a 0 0 0 0;man b 50 0 0 9;lease a b 0 1 9;letter b a 0;letter a a 0;");
        one.go(1);
        due("LET ahead of letters, one day", one.letter(0, 3), 1);
        due("the owner forges", one.letter(1, 3), 2);
        due("back on the same day", Checks.hand(one, 0, 5), 1);
        HandsLet next = told("man a 0 0 0 0;man b 50 0 0 9;lease a b 0 1 1;lease a b 1 1 1;");
        next.go(2);
        due("LET again on the next day", Checks.hand(next, 0, 5), 2);
        HandsLet chain = told("man a 0 0 0 0;man b 0 0 0 5;man c 0 0 0 0;lease c a 0 2 5;lease a b 0 2 5;"
                + "lease c a 0 2 5;");
        chain.go(1);
        due("a couldn't pay at first", chain.count(10), 1);
        due("but then by what b paid", Checks.hand(chain, 2, 3), 0);
        due("purses", chain.man(2, 3) * 100 + chain.man(1, 3) * 10 + chain.man(0, 3), 500);
        HandsLet fines = told("man a 0 0 0 100;man b 0 0 0 1;letter a b 0;letter a b 0;letter a a 0;watch 100;"
                + "law fine purse/2+1;");
        fines.go(1);
        due("fines one behind another", fines.man(0, 3), 100 - 51 - 25);
        due("found", fines.count(9), 2);
        HandsLet most = told("man a 0 0 0 999;man b 0 0 0 1;letter a b 0;watch 100;law fine 9999;");
        most.go(1);
        due("a fine of 999 at most", most.man(0, 3), 0);
        HandsLet least = told("man a 0 0 0 9;man b 0 0 0 1;letter a b 0;watch 100;law fine 0-9;");
        least.go(1);
        due("a fine of 0 at least", least.man(0, 3), 9);
        HandsLet price = told("man a 0 0 0 99;man b 10 0 0 99;letter a b 0;lease a b 0 1 50;watch 100;"
                + "law fine price+3;law turn price+500;");
        price.go(1);
        due("the price of a fine is 0", price.man(0, 3), 99 + 50 - 3);
        due("of turn, too", Checks.hand(price, 0, 0), 5000);
        HandsLet plain = told("man a 0 0 0 99;man b 0 0 0 1;letter a b 0;watch 100;");
        plain.go(1);
        due("a fine of 10 without", plain.man(0, 3), 89);
        HandsLet late = told("man a 0 0 0 99;man b 0 0 0 9;lease a b 99 1 9;letter b b 99;");
        late.go(99);
        due("not yet", late.letter(0, 3), 0);
        late.go(1);
        due("on DAY 99", late.letter(0, 3), 1);
        due("let and back on DAY 99", Checks.hand(late, 0, 5), 1);
    }

    /** The first numbers from seed 1: 16838, 5758, 10113, 17515, 31051 (those of the old C library). */
    private static void numbers() {
        String letters = "letter a b 0;letter a b 1;letter a b 2;letter a b 3;letter a b 4;";
        HandsLet x = told(TWO + letters + "seed 1;watch 39;");
        x.go(5);
        due("38 is below 39", x.letter(0, 5), 1);
        due("58 isn't", x.letter(1, 5), 0);
        due("13 is", x.letter(2, 5), 1);
        due("15 is", x.letter(3, 5), 1);
        due("51 isn't", x.letter(4, 5), 0);
        HandsLet y = told(TWO + letters + "seed 1;watch 38;");
        y.go(5);
        due("38 isn't below 38", y.letter(0, 5), 0);
        due("13 is below 38", y.letter(2, 5), 1);
        HandsLet none = told(TWO + "letter a b 0;letter b b 1;letter a b 2;seed 1;watch 39;");
        none.go(3);
        due("no number without a FORGED one: 58", none.letter(2, 5), 0);
        HandsLet two = told(TWO + "letter a b 0;letter b a 0;letter a b 1;seed 1;watch 39;");
        two.go(2);
        due("one number for a DAY", two.count(9), 2);
        HandsLet never = told(TWO + letters + "seed 1;");
        never.go(5);
        due("watch is 0 without", never.count(9), 0);
        due("FORGED all the same", never.count(7), 5);
        HandsLet kept = told(TWO + letters + "seed 1;watch 39;");
        kept.go(1);
        kept.keep();
        kept.go(2);
        kept.back();
        kept.go(2);
        due("the IMAGE keeps the numbers", kept.letter(1, 5) * 10 + kept.letter(2, 5), 1);
    }

    private static void ahead() {
        HandsLet x = told(STORY);
        due("purse", x.ahead(1, 0, 1), 25);
        due("now", x.ahead(0, 0, 1), 40);
        due("forged", x.ahead(3, 1, -5), 2);
        due("clashes", x.ahead(3, 2, 99), 1);
        due("slant", x.ahead(2, 3, 0), 30000);
        due("found", x.ahead(3, 4, 7), 2);
        due("all stays", x.count(4), 0);
        x.go(2);
        due("forged more", x.ahead(200, 1, 0), 1);
        due("found more", x.ahead(200, 4, 0), 1);
        due("clashes more", x.ahead(200, 2, 0), 0);
        due("n 201", x.ahead(201, 0, 0), -1);
        due("n -1", x.ahead(-1, 0, 0), -1);
        due("what 5", x.ahead(1, 5, 0), -1);
        due("what -1", x.ahead(1, -1, 0), -1);
        due("no such man", x.ahead(1, 0, 3), -1);
        due("no such hand", x.ahead(1, 3, -1), -1);
        HandsLet half = told(TWO + "letter a b 0;watch 50;");
        due("50: it looks", half.ahead(1, 4, 0), 1);
        HandsLet less = told(TWO + "letter a b 0;watch 49;");
        due("49: it doesn't", less.ahead(1, 4, 0), 0);
    }

    private static void free() {
        HandsLet x = told(TWO + "lease a b 1 9 0;lease a b 5 9 0;");
        due("now", x.free(0), 0);
        x.let(0, 1, 3, 0);
        due("in 3 days", x.free(0), 3);
        x.go(1);
        due("in 2 days", x.free(0), 2);
        x.let(1, 0, 99, 0);
        due("in 99 days", x.free(1), 99);
        due("no such hand", x.free(2), -1);
        due("hand -1", x.free(-1), -1);
    }

    private static void apart() {
        HandsLet x = told(STORY);
        due("in sum", x.apart(0, 1), 40000 + 0 + 20000);
        due("of the owner", x.apart(0, 0), 0);
        due("of the third", x.apart(1, 2), 40000 + 1000 + 20000);
        x.go(4);
        due("worn", x.apart(0, 0), 20000 + 0 + 10000);
        due("no such hand", x.apart(3, 0), -1);
        due("no such man", x.apart(0, 3), -1);
        due("-1", x.apart(-1, -1), -1);
    }

    private static void like() {
        HandsLet x = told("man a 10 0 0 9;man b 10 0 0 9;man c 20 0 0 9;wear 80;");
        HandsLet middle = told("man a 10 0 0 9;man b 20 0 0 9;man c 30 0 0 9;");
        due("the second one", middle.like(1), 1);
        due("the first of several", x.like(1), 0);
        due("the owner", x.like(2), 2);
        x.let(1, 2, 1, 0);
        x.end(1);
        due("worn towards c", x.like(1), 2);
        due("no such hand", x.like(3), -1);
        due("hand -1", x.like(-1), -1);
    }

    private static void could() {
        HandsLet x = told(STORY);
        due("not written", x.could(0, 0), -2);
        x.go(4);
        due("only ann", x.could(0, 999), 1);
        due("cy, too", x.could(0, 1000), 5);
        due("the least number", x.could(0, 0), 1);
        due("nobody", x.could(2, 30499), 0);
        due("all, just so", x.could(2, 30500), 7);
        due("the most", x.could(0, 999999), 7);
        due("number -1", x.could(0, -1), -1);
        due("number beyond", x.could(0, 1000000), -1);
        due("no such letter", x.could(3, 0), -1);
        due("letter -1", x.could(-1, 0), -1);
        HandsLet y = told(STORY);
        due("no such number, not written", y.could(0, -1), -1);
    }

    private static void match() {
        HandsLet x = told(STORY);
        due("as many as may be", x.match(6), 3);
        due("ann", x.match(0), 1);
        due("bo", x.match(1), 2);
        due("cy", x.match(2), 0);
        due("nobody", x.match(3), -2);
        due("in sum", x.match(7), 122000);
        due("what 8", x.match(8), -1);
        due("what -1", x.match(-1), -1);
        HandsLet line = told("man a 0 0 0 9;man b 1 0 0 9;man c 50 0 0 9;man d 51 0 0 9;");
        due("near ones", line.match(0) * 1000 + line.match(1) * 100 + line.match(2) * 10 + line.match(3), 1032);
        due("near ones in sum", line.match(7), 4000);
        line.let(0, 1, 1, 0);
        due("one that is LET isn't there", line.match(6), 3);
        due("a has b's", line.match(0), 1);
        due("b has none", line.match(1), -2);
        HandsLet alike = told("man a 5 0 0 9;man b 5 0 0 9;man c 5 0 0 9;man d 5 0 0 9;");
        due("the first by people", alike.match(0) * 1000 + alike.match(1) * 100 + alike.match(2) * 10 + alike.match(3),
                1032);
        alike.let(0, 1, 1, 0);
        alike.let(1, 0, 1, 0);
        due("none is last", alike.match(0) * 10 + alike.match(1), 23);
        due("none for c", alike.match(2), -2);
        HandsLet alone = told("man a 5 0 0 9;");
        due("alone", alone.match(0), -2);
        due("alone: how many", alone.match(6), 0);
        due("alone: in sum", alone.match(7), 0);
    }

    private static void auction() {
        HandsLet x = told(STORY);
        due("bo", x.auction(0, 0), 1);
        due("pays what cy bids", x.auction(0, 1), 5);
        due("ann", x.auction(2, 0), 0);
        due("pays what bo bids: 99 less 61", x.auction(2, 1), 38);
        due("what 2", x.auction(0, 2), -1);
        due("what -1", x.auction(0, -1), -1);
        due("no such hand", x.auction(3, 0), -1);
        HandsLet alike = told("man a 5 0 0 9;man b 7 0 0 50;man c 7 0 0 50;");
        due("the first of several", alike.auction(0, 0), 1);
        due("pays the same", alike.auction(0, 1), 50);
        HandsLet far = told("man a 0 0 0 9;man b 99 99 99 50;man c 99 99 0 50;");
        due("all bid 0", far.auction(0, 0), 1);
        due("and pay 0", far.auction(0, 1), 0);
        HandsLet two = told(TWO);
        due("no other one: 0", two.auction(0, 1), 0);
        due("who", two.auction(0, 0), 1);
        HandsLet alone = told("man a 0 0 0 9;");
        due("alone", alone.auction(0, 0), -2);
        due("alone, no such what", alone.auction(0, 2), -1);
        HandsLet worn = told("man a 10 0 0 0;man b 20 0 0 99;man c 30 0 0 99;wear 15;");
        worn.let(0, 1, 1, 0);
        due("LET is no other", worn.auction(0, 0), 1);
        worn.end(0);
        due("c: 18.5 thousands, cut", worn.auction(0, 1), 99 - 18);
    }

    private static void putOff() {
        due("none", told(STORY).putOff(), 1);
        HandsLet x = told(TWO + "letter a a 3;letter b a 3;letter a a 4;letter a b 3;letter b a 3;");
        due("3 3 3 4 are 3 4 5 6", x.putOff(), 1 + 2 + 2);
        x.go(3);
        due("of this DAY", x.putOff(), 5);
        x.go(1);
        due("behind it", x.putOff(), 0);
        HandsLet y = told(TWO + repeated("letter a a 99;", 12));
        due("beyond DAY 99", y.putOff(), 66);
        HandsLet gap = told(TWO + "letter a a 1;letter a a 1;letter a a 5;letter b a 2;");
        due("1 1 2 5 are 1 2 3 5", gap.putOff(), 2);
    }

    private static void ring() {
        HandsLet x = told(SIX);
        due("ends at once", x.ring(0, 0), 0);
        due("no steps", x.ring(0, 1), 0);
        due("himself", x.ring(0, 2), 1);
        x.let(0, 1, 9, 0);
        x.let(1, 2, 9, 0);
        due("ends", x.ring(0, 0), 0);
        due("2 steps", x.ring(0, 1), 2);
        due("three people", x.ring(0, 2), 7);
        x.let(2, 1, 9, 0);
        due("comes back to another", x.ring(0, 0), 2);
        due("3 steps", x.ring(0, 1), 3);
        due("three people", x.ring(0, 2), 7);
        due("comes back to him", x.ring(1, 0), 1);
        due("2 steps", x.ring(1, 1), 2);
        due("two people", x.ring(1, 2), 6);
        x.end(2);
        x.let(2, 3, 9, 0);
        x.let(3, 4, 9, 0);
        x.let(4, 5, 9, 0);
        x.let(5, 0, 9, 0);
        due("all six", x.ring(3, 0), 1);
        due("6 steps", x.ring(3, 1), 6);
        due("six people", x.ring(3, 2), 63);
        due("what 3", x.ring(0, 3), -1);
        due("what -1", x.ring(0, -1), -1);
        due("no such man", x.ring(6, 0), -1);
        due("man -1", x.ring(-1, 0), -1);
    }

    private static void lessons() {
        HandsLet x = told("man a 0 50 0 9;man b 2 0 0 9;wear 50;");
        due("none needed", x.lessons(0), 0);
        x.let(0, 1, 1, 0);
        x.end(0);
        due("25000 12500 6250 3125 1563 782", x.lessons(0), 5);
        x.teach(0);
        due("one less", x.lessons(0), 4);
        due("nothing taught by asking", Checks.hand(x, 0, 1), 50000 - 12500);
        HandsLet y = told("man a 1 0 0 9;man b 0 0 0 9;wear 100;");
        y.let(0, 1, 1, 0);
        y.end(0);
        due("1000 is too far", y.lessons(0), 1);
        HandsLet z = told("man a 1 0 0 9;man b 0 0 0 9;law turn 999;");
        z.let(0, 1, 1, 0);
        z.end(0);
        due("999 isn't", z.lessons(0), 0);
        z.let(0, 1, 1, 0);
        due("of one that is LET", z.lessons(0), 0);
        due("no such hand", z.lessons(2), -1);
        due("hand -1", z.lessons(-1), -1);
    }

    private static void rests() {
        HandsLet x = told("man a 0 0 0 0;man b 0 0 0 0;man c 50 50 50 30;man d 10 10 10 25;");
        due("purses 0, hands alike: both write", x.rests(0, 1), 1);
        due("which", x.rest(0, 1, 0), 0);
        due("no second", x.rest(0, 1, 1), -2);
        due("a lets for 3, c writes for 1 or lets for 7: both let", x.rest(0, 2, 0), 11);
        due("no other", x.rests(0, 2), 1);
        HandsLet mixed = told("man a 0 0 0 20;man b 20 0 0 20;man c 0 19 0 20;");
        due("20 by 10 is no more than 2; 1 and 1 alike", mixed.rests(0, 1), 4);
        due("0", mixed.rest(0, 1, 0), 0);
        due("1", mixed.rest(0, 1, 1), 1);
        due("10", mixed.rest(0, 1, 2), 10);
        due("11", mixed.rest(0, 1, 3), 11);
        due("no fifth", mixed.rest(0, 1, 4), -2);
        due("19000 by 20000 is 0: not both", mixed.rests(0, 2), 3);
        HandsLet chicken = told("man a 0 0 0 90;man b 0 0 0 90;");
        due("one lets", chicken.rests(0, 1), 2);
        due("the second one", chicken.rest(0, 1, 0), 1);
        due("the first one", chicken.rest(0, 1, 1), 10);
        HandsLet purse = told("man a 0 0 0 0;man b 0 0 0 30;");
        due("a lets, who has the purse of b", purse.rest(0, 1, 0), 10);
        due("the other way round", purse.rest(1, 0, 0), 1);
        due("alike", x.rests(1, 1), -1);
        due("no such one", x.rests(4, 0), -1);
        due("-1", x.rests(0, -1), -1);
        due("alike", x.rest(1, 1, 0), -1);
        due("no such one", x.rest(0, 4, 0), -1);
        due("k -1", x.rest(0, 1, -1), -1);
    }

    private static void quiet() {
        HandsLet x = told("watch 75;");
        due("1 of 4", x.quiet(1, 0), 1);
        due("below", x.quiet(1, 1), 4);
        due("6 days", x.quiet(6, 1), 4096);
        due("0 days", x.quiet(0, 0), 1);
        due("n 7", x.quiet(7, 0), -1);
        due("n -1", x.quiet(-1, 0), -1);
        due("what 2", x.quiet(1, 2), -1);
        due("what -1", x.quiet(1, -1), -1);
        HandsLet most = told("watch 1;");
        due("99 to the 6", most.quiet(6, 0), 941480149401L);
        due("100 to the 6", most.quiet(6, 1), 1000000000000L);
        HandsLet always = told("watch 100;");
        due("never quiet", always.quiet(3, 0), 0);
        due("in least terms", always.quiet(3, 1), 1);
        due("but for no days", always.quiet(0, 0), 1);
        HandsLet odd = told("watch 40;");
        due("27", odd.quiet(3, 0), 27);
        due("of 125", odd.quiet(3, 1), 125);
    }

    private static void seeAndStrike() {
        HandsLet x = told(STORY);
        due("see", x.see(1, 0, 0, 0, true), 0);
        due("see the most", x.see(60, 2, 2, 99, false), 1);
        due("0 days", x.see(0, 0, 0, 0, true), -1);
        due("61 days", x.see(61, 0, 0, 0, true), -1);
        due("no such hand", x.see(1, 3, 0, 0, true), -1);
        due("hand -1", x.see(1, -1, 0, 0, true), -1);
        due("trait 3", x.see(1, 0, 3, 0, true), -1);
        due("trait -1", x.see(1, 0, -1, 0, true), -1);
        due("100", x.see(1, 0, 0, 100, true), -1);
        due("-1", x.see(1, 0, 0, -1, true), -1);
        due("strike", x.strike(1), 2);
        due("strike what strikes", x.strike(2), 3);
        due("strike itself", x.strike(4), -1);
        due("strike -1", x.strike(-1), -1);
        for (int k = 4; k < 24; k++) {
            due("number " + k, k % 2 == 0 ? x.see(1, 0, 0, 0, true) : x.strike(k - 1), k);
        }
        due("a 25th", x.see(1, 0, 0, 0, true), -1);
        due("a 25th that strikes", x.strike(0), -1);
        due("24", x.count(11), 24);
    }

    private static void known() {
        HandsLet x = told(STORY);
        due("known(0) of none", x.known(0) ? 1 : 0, 1);
        x.see(2, 0, 0, 30, true);
        due("by none of one", x.count(12), 0);
        due("none is asked", x.wears(), 2047);
        due("known(1)", x.known(1) ? 1 : 0, 1);
        due("one is asked", x.wears(), 2016);
        due("known(2)", x.known(2) ? 1 : 0, 0);
        due("known(-2)", x.known(-2) ? 1 : 0, 0);
        due("stays", x.count(12), 1);
        x.see(2, 0, 0, 50, true);
        due("the second one isn't asked", x.wears(), 2016);
        due("known(-1)", x.known(-1) ? 1 : 0, 1);
        due("all are asked", x.wears(), 1024);
        x.strike(1);
        due("also those to come", x.count(12), 3);
        due("the second one is STRUCK", x.wears(), 2016);
        x.strike(2);
        due("what strikes is STRUCK", x.wears(), 1024);
        due("known(2)", x.known(2) ? 1 : 0, 1);
        due("what strikes isn't known", x.wears(), 1024);
        x.known(3);
        due("now it is", x.wears(), 2016);
        x.known(-1);
        x.keep();
        x.see(2, 0, 0, 50, false);
        x.back();
        due("an IMAGE doesn't keep what was SEEN", x.count(11), 5);
    }

    private static void wears() {
        HandsLet x = told(STORY);
        x.see(2, 0, 0, 30, true);
        due("50 at least", x.wears(), 2016);
        x.see(2, 0, 0, 31, false);
        due("50 alone", x.wears(), 32);
        x.see(1, 0, 0, 11, false);
        due("not yet back", x.wears(), 32);
        x.go(9);
        x.let(0, 1, 1, 0);
        x.end(0);
        due("nothing done by call", x.wears(), 32);
        x.see(1, 0, 0, 11, true);
        due("none", x.wears(), 0);
        HandsLet law = told("man a 0 0 0 9;man b 90 0 0 9;lease a b 0 1 1;law turn 500;");
        law.see(1, 0, 0, 45, true);
        due("E of turn is asked all the same", law.wears(), 2047);
        law.see(1, 0, 0, 46, true);
        due("by none", law.wears(), 0);
        HandsLet error = told("man a 0 0 0 9;man b 90 0 0 9;lease a b 0 1 1;law turn 1/0;");
        error.see(1, 0, 0, 45, true);
        due("but with an ERROR", error.wears(), 2016);
        HandsLet loops = told("man a 0 0 50 9;man b 90 80 40 9;lease a b 0 1 1;");
        loops.see(1, 0, 1, 8, false);
        due("LOOPS below 8: 0", loops.wears(), 1);
        loops.strike(0);
        loops.see(1, 0, 2, 49, false);
        due("WEIGHT below 49: 20 and more", loops.wears(), 2044);
    }

    private static void ask() {
        HandsLet x = told("man a 0 0 0 9;man b 90 0 0 9;lease a b 0 1 1;");
        due("0 9 18 27 36 45 54 63 72 81 90", x.ask(0, 0), 37);
        due("5 or 6 left", x.ask(0, 1), 6);
        x.see(1, 0, 0, 80, true);
        due("81 90", x.ask(0, 0), 82);
        due("1 left", x.ask(0, 1), 1);
        due("b's is never LET: all answer alike", x.ask(1, 0), 1);
        due("2 left", x.ask(1, 1), 2);
        x.see(1, 0, 0, 0, false);
        due("no WEARS: 1", x.ask(0, 0), 1);
        due("none left", x.ask(0, 1), 0);
        due("what 2", x.ask(0, 2), -1);
        due("what -1", x.ask(0, -1), -1);
        due("no such hand", x.ask(2, 0), -1);
        due("hand -1", x.ask(-1, 0), -1);
        HandsLet late = told("man a 0 0 0 9;man b 90 0 0 9;lease a b 59 1 1;");
        due("back on the 60th DAY", late.ask(0, 1), 6);
        HandsLet later = told("man a 0 0 0 9;man b 90 0 0 9;lease a b 60 1 1;");
        due("back too late", later.ask(0, 1), 11);
        later.see(40, 0, 0, 0, true);
        due("60 DAYS from the TEXT on, not from the last one SEEN", later.ask(0, 1), 11);
        HandsLet ends = told("man a 99 0 0 9;man b 0 0 0 9;lease a b 0 1 1;");
        ends.see(1, 0, 0, 80, true);
        due("99 89: the first number is 90", ends.ask(0, 0), 90);
        ends.see(1, 0, 0, 99, true);
        due("99 alone: 1 is as good as any", ends.ask(0, 0), 1);
        HandsLet low = told("man a 1 0 0 9;man b 0 0 0 9;lease a b 0 1 1;");
        due("1 and ten times 0", low.ask(0, 0), 1);
        due("ten left", low.ask(0, 1), 10);
        HandsLet high = told("man a 98 0 0 9;man b 99 0 0 9;lease a b 0 1 1;");
        due("99 alone tells 100 from the others", high.ask(0, 0), 99);
        HandsLet two = told("man a 1 0 0 9;man b 2 0 0 9;lease a b 0 1 1;");
        due("so does 2", two.ask(0, 0), 2);
    }

    private static void chance() {
        String letters = "letter a b 0;letter a b 1;";
        HandsLet x = told(TWO + letters + "watch 39;");
        // Numbers from seed 1 on, modulo 100: 38 58, 13 15, 51 27, 10 19, 12 86, 67 43, 57 64, 72 53, 36 63, 47 38.
        int[] from1 = {38, 58, 13, 15, 51, 27, 10, 19, 12, 86};
        long last = 1;
        for (int k = 0; k < 10; k++) {
            last = (last * 1103515245L + 12345L) % 2147483648L;
            due("number " + k, last / 65536 % 100, from1[k]);
        }
        int atLeastOne = 0;
        int both = 0;
        last = 1;
        for (int k = 0; k < 10; k++) {
            int found = 0;
            for (int day = 0; day < 2; day++) {
                last = (last * 1103515245L + 12345L) % 2147483648L;
                found += last / 65536 % 100 < 39 ? 1 : 0;
            }
            atLeastOne += found >= 1 ? 1 : 0;
            both += found == 2 ? 1 : 0;
        }
        due("one at least", x.chance(1, 2, 1), atLeastOne);
        due("both", x.chance(1, 2, 2), both);
        due("beyond the last one", x.chance(1, 99, 2), both);
        due("none at least", x.chance(1, 2, 0), 10);
        due("more than there are", x.chance(1, 2, 3), 0);
        due("the most", x.chance(1, 2, 12), 0);
        due("all stays", x.count(4), 0);
        HandsLet always = told(TWO + letters + "watch 100;");
        always.go(1);
        due("more than now", always.chance(2147483647, 1, 1), 10);
        due("not 2 more", always.chance(0, 99, 2), 0);
        due("seed -1", x.chance(-1, 1, 1), -1);
        due("n 0", x.chance(0, 0, 1), -1);
        due("n 100", x.chance(0, 100, 1), -1);
        due("found -1", x.chance(0, 1, -1), -1);
        due("found 13", x.chance(0, 1, 13), -1);
    }

    private static void tried() {
        HandsLet x = told(STORY);
        due("never looks", x.tried(0, 0, 3), 95);
        due("looks", x.tried(1, 0, 3), 80);
        due("without bo", x.tried(2, 1, 3), 81);
        due("no rent", x.tried(3, 0, 3), 80);
        due("no fines", x.tried(4, 0, 3), 95);
        due("now", x.tried(1, 0, 0), 95);
        due("all stays", x.count(4) + x.count(10), 0);
        HandsLet watch = told("man a 0 0 0 50;man b 0 0 0 50;letter a b 0;");
        due("looks, though watch is 0", watch.tried(1, 0, 1), 90);
        due("without b: a forges", watch.tried(2, 1, 1), 100);
        HandsLet owner = told("man a 0 0 0 50;man b 0 0 0 50;man c 0 0 0 50;lease a b 0 1 5;letter a a 0;"
                + "letter b a 0;watch 50;");
        due("b neither LET to nor writes: a is good", owner.tried(2, 1, 1), 150);
        due("as it is a forges", owner.tried(2, 2, 1), 140);
        owner.let(0, 1, 9, 5);
        due("what is LET to b goes on: a forges", owner.tried(2, 1, 1), 140);
        HandsLet rent = told("man a 0 0 0 5;man b 0 0 0 5;lease a b 0 1 99;letter a a 0;watch 99;");
        due("can't pay", rent.tried(1, 0, 1), 10);
        due("need not pay", rent.tried(3, 0, 1), 5);
        due("what 5", x.tried(5, 0, 1), -1);
        due("what -1", x.tried(-1, 0, 1), -1);
        due("n 201", x.tried(0, 0, 201), -1);
        due("n -1", x.tried(0, 0, -1), -1);
        due("i 1", x.tried(0, 1, 1), -1);
        due("no such i", x.tried(2, 3, 1), -1);
        due("i -1", x.tried(2, -1, 1), -1);
        due("n 200, without ann: cy loses 5", x.tried(2, 0, 200), 90);
    }

    private static void undo() {
        HandsLet x = told(TWO + "man c 0 0 0 0;law rent price*2;");
        x.let(0, 1, 5, 20);
        x.end(0);
        x.teach(0);
        due("three", x.count(13), 3);
        due("the lesson", x.undo(), 2);
        due("worn slant", Checks.hand(x, 0, 0), 19800);
        due("worn loops", Checks.hand(x, 0, 1), 19800);
        due("worn weight", Checks.hand(x, 0, 2), 19800);
        due("the end", x.undo(), 1);
        due("LET again", Checks.hand(x, 0, 3) * 10 + Checks.hand(x, 0, 4), 15);
        due("times", Checks.hand(x, 0, 5), 0);
        due("as it was", Checks.hand(x, 0, 0), 0);
        due("the letting", x.undo(), 0);
        due("purses", x.man(0, 3) * 1000 + x.man(1, 3), 100100);
        due("not LET", Checks.hand(x, 0, 3), -2);
        due("none", x.undo(), -1);
        x.let(0, 2, 1, 50);
        x.let(0, 0, 1, 1);
        x.end(1);
        due("what wasn't done can't be undone", x.count(13), 0);
        x.teach(0);
        x.go(0);
        due("no DAY went by", x.count(13), 1);
        x.go(1);
        due("a DAY went by", x.undo(), -1);
        for (int k = 1; k <= 25; k++) {
            x.let(0, 1, k, 0);
            x.end(0);
        }
        due("20 at most", x.count(13), 20);
        for (int k = 19; k >= 0; k--) {
            due("undone", x.undo(), k);
        }
        due("no more", x.undo(), -1);
        due("15 times LET are left", Checks.hand(x, 0, 5), 15);
        HandsLet rich = told("man a 0 0 0 999;man b 0 0 0 999;law rent 999;");
        rich.let(0, 1, 1, 0);
        rich.undo();
        due("both purses", rich.man(0, 3) + rich.man(1, 3), 1998);
    }

    private static void images() {
        HandsLet x = told(STORY);
        due("none", x.back(), -1);
        x.go(1);
        due("keep", x.keep(), 1);
        x.let(1, 2, 3, 0);
        x.go(3);
        due("refused", x.count(10), 2);
        due("back", x.back(), 1);
        due("refused then", x.count(10), 0);
        due("not LET then", Checks.hand(x, 1, 3), -2);
        due("LET then", Checks.hand(x, 0, 3), 1);
        due("not written then", x.letter(0, 3), 0);
        due("purse then", x.man(0, 3), 65);
        x.teach(1);
        due("back once more", x.back(), 1);
        due("nothing to undo then", x.count(13), 0);
        x.go(2);
        due("in place of the one ahead", x.keep(), 3);
        x.go(1);
        due("the later one", x.back(), 3);
        due("written then", x.letter(2, 3), 2);
        due("found then", x.count(9), 2);
        x.teach(2);
        due("keeping undoes nothing", x.keep(), 3);
        due("and can be undone behind", x.undo(), 0);
    }

    private static void count() {
        HandsLet x = told(STORY + "law rent price;law fine 5+5;");
        int[] first = {3, 3, 3, 4, 0, 0, 95, 0, 0, 0, 0, 0, 0, 0};
        for (int what = 0; what < first.length; what++) {
            due("at first, count(" + what + ")", x.count(what), first[what]);
        }
        x.go(4);
        x.let(0, 1, 9, 1);
        x.see(1, 1, 1, 1, true);
        x.see(1, 1, 1, 1, true);
        x.known(1);
        int[] then = {3, 3, 3, 4, 4, 1, 80, 2, 1, 2, 2, 2, 1, 1};
        for (int what = 0; what < then.length; what++) {
            due("then, count(" + what + ")", x.count(what), then[what]);
        }
        due("count(14)", x.count(14), -1);
        due("count(-1)", x.count(-1), -1);
    }
}
