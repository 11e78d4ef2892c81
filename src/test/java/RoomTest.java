import com.sun.management.ThreadMXBean;
import java.lang.management.ManagementFactory;
import java.util.Random;

/** Calls with wild numbers in any state: nothing but what the document names is thrown, and nothing is made. */
public final class RoomTest {
    private static final String[] TEXTS = {
        "",
        "man a 1 2 3 4;",
        "man a 1 2 3 400;man b 50 60 70 80;lease a b 0 5 3;lease b a 2 3 1;letter a a 1;letter b a 1;watch 50;seed 3;",
        "man a 1 2 3 400;man b 50 60 70 80;man c 9 9 9 9;man d 8 8 8 8;man e 7 7 7 700;man f 6 6 6 600;"
            + "lease a b 0 5 3;lease f a 2 3 1;letter a f 1;letter b a 1;letter c d 1;watch 30;seed 77;"
            + "law rent purse/(day-1);law turn 1000*1000*1000*1000*slant;law fine 9999-9999*times;"};
    private static final int[] EDGES = {Integer.MIN_VALUE, -2, -1, 0, 1, 2, 5, 6, 7, 12, 24, 60, 99, 100, 200, 700,
        9800, 999999, 1000000, 0x7FFFFFFF, 0x3B3B3B3B, 0x6D616E20};

    private static final Checks CHECKS = new Checks();
    private static final Random RANDOM = new Random(5);

    public static void main(String[] args) {
        for (int run = 0; run < 400; run++) {
            HandsLet x = Checks.told(TEXTS[run % TEXTS.length]);
            for (int k = 0; k < 500; k++) {
                call(x, RANDOM.nextInt(36));
                if (x.count(0) == 0) {
                    x.text(0);
                    Checks.tell(x, TEXTS[run % TEXTS.length]);
                }
            }
        }
        CHECKS.due("rows made by 100000 calls", made() < 100000 ? 1 : 0, 1);
        CHECKS.finish();
    }

    private static int n() {
        return RANDOM.nextInt(3) == 0 ? EDGES[RANDOM.nextInt(EDGES.length)] : RANDOM.nextInt(8) - 1;
    }

    /** How many bytes a hundred thousand calls leave behind, but for hand(), which throws, and text(), which may be empty. */
    private static long made() {
        ThreadMXBean threads = (ThreadMXBean) ManagementFactory.getThreadMXBean();
        long id = Thread.currentThread().getId();
        HandsLet x = Checks.told(TEXTS[3]);
        long before = threads.getThreadAllocatedBytes(id);
        for (int k = 0; k < 100000; k++) {
            int which = RANDOM.nextInt(36);
            if (which != 1 && which != 4) {
                call(x, which);
            }
        }
        return threads.getThreadAllocatedBytes(id) - before;
    }

    private static long call(HandsLet x, int which) {
        switch (which) {
            case 0: return x.feed(n(), n(), n(), n(), n());
            case 1: return x.text(n());
            case 2: return x.fault(n());
            case 3: return x.named(n());
            case 4: return Checks.hand(x, n(), n());
            case 5: return x.man(n(), n());
            case 6: return x.letter(n(), n());
            case 7: return x.law(n(), n(), n(), n());
            case 8: return x.let(n(), n(), n(), n());
            case 9: return x.end(n());
            case 10: return x.teach(n());
            case 11: return x.go(n());
            case 12: return x.ahead(n(), n(), n());
            case 13: return x.free(n());
            case 14: return x.apart(n(), n());
            case 15: return x.like(n());
            case 16: return x.could(n(), n());
            case 17: return x.match(n());
            case 18: return x.auction(n(), n());
            case 19: return x.putOff();
            case 20: return x.ring(n(), n());
            case 21: return x.lessons(n());
            case 22: return x.rests(n(), n());
            case 23: return x.rest(n(), n(), n());
            case 24: return x.quiet(n(), n());
            case 25: return x.see(n(), n(), n(), n(), RANDOM.nextBoolean());
            case 26: return x.strike(n());
            case 27: return x.known(n()) ? 1 : 0;
            case 28: return x.wears();
            case 29: return x.ask(n(), n());
            case 30: return x.chance(n(), n(), n());
            case 31: return x.tried(n(), n(), n());
            case 32: return x.undo();
            case 33: return x.keep();
            case 34: return x.back();
            default: return x.count(n());
        }
    }
}
