import java.util.NoSuchElementException;

/** What the project's tests share: texts on the tape, answers that are due. */
final class Checks {
    /** What hand() answers in place of an exception. */
    static final int NO_HAND = -1001;
    static final int NO_WHAT = -1002;

    private int wrong;
    private int done;

    void due(String what, long got, long want) {
        done++;
        if (got != want) {
            wrong++;
            if (wrong <= 40) {
                System.out.println(what + " answered " + got + ", due is " + want);
            }
        }
    }

    /** Prints the outcome and ends the program if an answer was wrong. */
    void finish() {
        System.out.println(done + " answers, " + wrong + " not as due");
        if (wrong != 0) {
            System.exit(1);
        }
    }

    /** A name as named() takes it. */
    static int letters(String name) {
        int bits = 0;
        for (int i = 0; i < 6; i++) {
            bits = bits << 5 | (i < name.length() ? name.charAt(i) - 'a' + 1 : 0);
        }
        return bits;
    }

    /** The five numbers of the k-th feed of a text, with blanks behind its end. */
    static int[] fed(String text, int k) {
        int[] five = new int[5];
        for (int i = 0; i < 20; i++) {
            int at = 20 * k + i;
            int sign = at < text.length() ? text.charAt(at) & 255 : 32;
            five[i / 4] = five[i / 4] << 8 | sign;
        }
        return five;
    }

    static int feeds(String text) {
        return (text.length() + 19) / 20;
    }

    static int tell(HandsLet x, String text) {
        for (int k = 0; k < feeds(text); k++) {
            int[] f = fed(text, k);
            x.feed(f[0], f[1], f[2], f[3], f[4]);
        }
        return x.text(text.length());
    }

    static HandsLet told(String text) {
        HandsLet x = new HandsLet();
        int lines = tell(x, text);
        if (lines < 0) {
            throw new IllegalStateException("text " + lines + ": " + x.fault(0) + " at " + x.fault(1) + " of " + text);
        }
        return x;
    }

    static int hand(HandsLet x, int hand, int what) {
        try {
            return x.hand(hand, what);
        } catch (IndexOutOfBoundsException e) {
            return NO_HAND;
        } catch (NoSuchElementException e) {
            return NO_WHAT;
        }
    }
}
