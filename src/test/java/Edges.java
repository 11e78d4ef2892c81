import java.io.IOException;
import java.nio.file.Files;
import java.nio.file.Path;
import java.util.ArrayList;
import java.util.List;
import java.util.function.Supplier;
import java.util.function.ToLongFunction;

/**
 * What the tests of boundary cases share. Each case stands under the sentence of the document that names it; a sentence
 * that the document hasn't (any more) is wrong itself, and so is a promise without one.
 */
final class Edges {
    static final String TWO = "man a 0 0 0 100;man b 99 99 99 100;";
    static final String SIX = "man a 0 0 0 9;man b 1 0 0 9;man c 2 0 0 9;man d 3 0 0 9;man e 4 0 0 9;man f 5 0 0 9;";
    /** Numbers that are far from all that is told. */
    static final int[] FAR = {Integer.MIN_VALUE, -1000, 1000, Integer.MAX_VALUE};

    private final Checks checks = new Checks();
    private final String document = read();
    private final List<Integer> promises = new ArrayList<>();
    private String where = "";

    private static String read() {
        try {
            return Files.readString(Path.of("../shared/DOC.md")).replaceAll("\\s+", " ");
        } catch (IOException e) {
            throw new IllegalStateException(e);
        }
    }

    private String section(String from, String to) {
        int start = document.indexOf(from);
        int stop = document.indexOf(to);
        return start < 0 || stop < start ? "" : document.substring(start, stop);
    }

    /** What comes now is due by this sentence of the promise, or of the terms that it uses. */
    void sentence(int promise, String quote) {
        where = "promise " + promise + ", \"" + quote + "\": ";
        promises.add(promise);
        String own = section("## Promise " + promise + ":", promise == 37 ? "## Not promised" : "## Promise "
                + "" + (promise + 1) + ":");
        String terms = section("## Terms", "## Promise 1:");
        due("stands in the document", own.contains(quote) || terms.contains(quote) ? 1 : 0, 1);
    }

    void due(String what, long got, long want) {
        checks.due(where + what, got, want);
    }

    void finish(int first, int last) {
        where = "";
        for (int promise = first; promise <= last; promise++) {
            due("promise " + promise + " has a sentence", promises.contains(promise) ? 1 : 0, 1);
        }
        checks.finish();
    }

    HandsLet told(String text) {
        return Checks.told(text);
    }

    /** Tells a text to a new object that is to have this FAULT at this place. */
    void fault(String text, int kind, int place) {
        HandsLet x = new HandsLet();
        due("text of " + text, Checks.tell(x, text), -1);
        due("fault(0) of " + text, x.fault(0), kind);
        due("fault(1) of " + text, x.fault(1), place);
    }

    void fine(String text, int lines) {
        HandsLet x = new HandsLet();
        due("text of " + text, Checks.tell(x, text), lines);
        due("fault(0) of " + text, x.fault(0), 0);
        due("fault(1) of " + text, x.fault(1), -1);
    }

    /** A call that answers so, and behind which all is as it would be without it. */
    void idle(String what, Supplier<HandsLet> maker, ToLongFunction<HandsLet> call, long want) {
        HandsLet asked = maker.get();
        due(what, call.applyAsLong(asked), want);
        HandsLet left = maker.get();
        boolean same = state(asked).equals(state(left)) && past(asked).equals(past(left));
        due(what + " and changes nothing", same ? 1 : 0, 1);
    }

    /** All that can be looked at, but for the FAULT. */
    static String state(HandsLet x) {
        StringBuilder all = new StringBuilder();
        for (int what = 0; what <= 13; what++) {
            all.append(x.count(what)).append(' ');
        }
        for (int i = 0; i < x.count(0); i++) {
            for (int what = 0; what <= 6; what++) {
                all.append(Checks.hand(x, i, what)).append(' ').append(x.man(i, what)).append(' ');
            }
        }
        for (int i = 0; i < x.count(2); i++) {
            for (int what = 3; what <= 8; what++) {
                all.append(x.letter(i, what)).append(' ');
            }
        }
        return all.append(x.wears()).append(' ').toString();
    }

    /** The FAULT, and what can be looked at only by using it: the last deed, the numbers to come, the IMAGE, the TAPE. */
    private static String past(HandsLet x) {
        StringBuilder all = new StringBuilder();
        all.append(x.fault(0)).append(' ').append(x.fault(1)).append(' ');
        all.append(x.undo()).append(' ').append(x.count(6)).append(' ');
        all.append(x.go(99)).append(' ').append(x.count(9)).append(' ').append(x.count(6)).append(' ');
        all.append(x.back()).append(' ').append(x.count(6)).append(' ').append(x.count(9)).append(' ');
        all.append(x.feed(0, 0, 0, 0, 0));
        return all.toString();
    }

    /** Three people on DAY 2 with all there is: something LET, written, FOUND, SEEN, kept, to undo, on the TAPE. */
    static HandsLet busy() {
        HandsLet x = Checks.told("man ann 10 20 30 50;man bo 50 20 10 40;man cy 10 21 30 5;lease ann bo 0 2 15;"
                + "lease ann cy 1 3 1;lease cy ann 4 2 1;letter bo ann 1;letter ann ann 1;letter cy bo 2;"
                + "letter cy bo 3;letter cy ann 4;wear 50;watch 60;seed 4;");
        x.go(1);
        x.keep();
        x.go(1);
        x.see(2, 0, 0, 30, true);
        x.see(2, 0, 0, 40, true);
        x.strike(1);
        x.known(2);
        x.teach(0);
        x.let(1, 0, 3, 7);
        x.feed(0x20202020, 0x20202020, 0x20202020, 0x20202020, 0x20202020);
        return x;
    }
}
