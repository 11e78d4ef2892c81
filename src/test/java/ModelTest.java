import java.util.Random;

/** Runs of calls drawn by chance from fixed seeds, each answer compared with the model's. */
public final class ModelTest {
    private static final String[] NAMES = {"ann", "bo", "cy", "d", "eva", "fritzi", "gg"};
    private static final String[] LAW_NAMES = {"slant", "loops", "weight", "purse", "price", "times", "day"};
    private static final String[] SCRAPS = {"man", "lease", "letter", "wear", "watch", "seed", "law", "rent", "turn",
        "fine", "or", "and", "not", "slant", "day", ";", "(", ")", "<", ">", "=", "+", "-", "*", "/", "7", "100",
        "10000", "ann", "bo", "abcdefg", "?", "\n", "  ", "A", "\u00e9", "\t", "0", "00012"};

    private final Random random;
    private final Checks checks;
    private final StringBuilder log = new StringBuilder();
    /** What a run does most: 1 deeds, 2 what is seen, 0 nothing of these. */
    private int busy;
    private HandsLet x;
    private Model m;

    private ModelTest(long seed, Checks checks) {
        random = new Random(seed);
        this.checks = checks;
    }

    public static void main(String[] args) {
        Checks checks = new Checks();
        int runs = args.length > 0 ? Integer.parseInt(args[0]) : 1500;
        for (int seed = 0; seed < runs; seed++) {
            new ModelTest(seed, checks).run();
        }
        checks.finish();
    }

    private void run() {
        x = new HandsLet();
        m = new Model();
        int calls = 0;
        while (calls < 400) {
            calls += tellText();
            busy = random.nextInt(3);
            int more = random.nextInt(120);
            for (int i = 0; i < more; i++, calls++) {
                call();
            }
            if (random.nextInt(3) == 0) {
                break;
            }
        }
    }

    private int upTo(int n) {
        return random.nextInt(n + 1);
    }

    private String oneOf(String[] words) {
        return words[random.nextInt(words.length)];
    }

    /** Mostly what is told may be; seldom a little below or above. */
    private int within(int least, int most) {
        switch (random.nextInt(24)) {
            case 0: return least - 1;
            case 1: return most + 1;
            case 2: return least;
            case 3: return most;
            case 4: return random.nextInt(8) == 0 ? random.nextInt() : least;
            default: return least + random.nextInt(most - least + 1);
        }
    }

    /** An E, or one of its parts: 0 E, 1 A, 2 B, 3 C, 4 S, 5 T, 6 P. */
    private String formula(int part, int depth) {
        if (part == 6) {
            if (depth > 0 && random.nextInt(3) == 0) {
                return "(" + formula(0, depth - 1) + ")";
            }
            return random.nextBoolean() ? oneOf(LAW_NAMES)
                    : Integer.toString(random.nextInt(4) == 0 ? upTo(9999) : upTo(60));
        }
        if (part == 2) {
            return random.nextInt(4) == 0 ? "not " + formula(2, depth) : formula(3, depth);
        }
        String[][] joints = {{" or "}, {" and "}, {}, {"<", "<=", "=", "<>", ">=", ">"}, {"+", "-"}, {"*", "/"}};
        StringBuilder all = new StringBuilder(formula(part + 1, depth));
        int more = part == 3 ? random.nextInt(4) / 3 : random.nextInt(9) / 7;
        for (int k = 0; k < more; k++) {
            all.append(oneOf(joints[part])).append(formula(part + 1, depth));
        }
        return all.toString();
    }

    private String text() {
        StringBuilder t = new StringBuilder();
        int people = random.nextInt(20) == 0 ? upTo(7) : 1 + upTo(5);
        int far = random.nextBoolean() ? 12 : random.nextBoolean() ? 3 : 99;
        for (int i = 0; i < people; i++) {
            t.append("man ").append(NAMES[i]);
            for (int k = 0; k < 3; k++) {
                t.append(' ').append(random.nextInt(4) == 0 ? 10 : upTo(99));
            }
            t.append(' ').append(random.nextBoolean() ? upTo(999) : upTo(60)).append(";");
        }
        int leases = people < 2 ? 0 : upTo(8);
        for (int i = 0; i < leases; i++) {
            int owner = random.nextInt(Math.min(people, 6));
            int tenant = (owner + 1 + random.nextInt(people - 1)) % people;
            t.append("lease ").append(NAMES[owner]).append(' ').append(NAMES[tenant]).append(' ')
                    .append(upTo(far)).append(' ').append(1 + upTo(far < 99 ? far : 98)).append(' ')
                    .append(random.nextBoolean() ? upTo(99) : upTo(20)).append(";");
        }
        int letters = people == 0 ? 0 : upTo(11);
        for (int i = 0; i < letters; i++) {
            t.append("letter ").append(NAMES[random.nextInt(people)]).append(' ')
                    .append(NAMES[random.nextInt(people)]).append(' ').append(upTo(far)).append(";");
        }
        if (random.nextBoolean()) {
            t.append("wear ").append(upTo(100)).append(";");
        }
        if (random.nextInt(4) > 0) {
            t.append("watch ").append(random.nextInt(4) == 0 ? 100 * upTo(1) : upTo(100)).append(";");
        }
        if (random.nextBoolean()) {
            t.append("seed ").append(upTo(99999)).append(";");
        }
        for (String rule : new String[] {"rent", "turn", "fine"}) {
            if (random.nextInt(3) == 0) {
                t.append("law ").append(rule).append(' ').append(formula(0, upTo(3))).append(";");
            }
        }
        return t.toString();
    }

    private String damaged(String text) {
        int at = random.nextInt(text.length() + 1);
        String[] lines = text.split("(?<=;)");
        switch (random.nextInt(7)) {
            case 4: return text + oneOf(lines);
            case 5: return text.replaceFirst("(lease|letter) [a-z]+ [a-z]+", "$1 " + oneOf(NAMES) + " " + oneOf(NAMES));
            case 6: return text + oneOf(lines).replaceFirst("[0-9]+", Integer.toString(within(0, 100)));
            case 0: return text.substring(0, at);
            case 1: return text.substring(0, at) + oneOf(SCRAPS) + text.substring(at);
            case 2: return text.substring(0, at) + " " + oneOf(SCRAPS) + " " + text.substring(at);
            default: return text.substring(0, at) + text.substring(Math.min(text.length(), at + 1 + upTo(5)));
        }
    }

    /** How many calls it took. */
    private int tellText() {
        String text = random.nextInt(8) == 0 ? "man d 1 2 3 4;law rent " + formula(0, 7) + ";" : text();
        for (int k = random.nextInt(8); k >= 6; k--) {
            text = damaged(text);
        }
        text = text.length() > 700 ? text.substring(0, 700) : text;
        log.setLength(0);
        log.append(text).append(" : ");
        for (int k = 0; k < Checks.feeds(text); k++) {
            int[] f = Checks.fed(text, k);
            due("feed", x.feed(f[0], f[1], f[2], f[3], f[4]), m.feed(f));
        }
        int n = random.nextInt(20) == 0 ? upTo(720) - 5 : text.length();
        due("text " + n, x.text(n), m.text(n));
        due("fault 0", x.fault(0), m.fault(0));
        due("fault 1", x.fault(1), m.fault(1));
        due("fault 2", x.fault(2), m.fault(2));
        for (int what = -1; what <= 14; what++) {
            due("count " + what, x.count(what), m.count(what));
        }
        return Checks.feeds(text) + 20;
    }

    private void due(String call, long got, long want) {
        log.append(call).append('=').append(want).append(' ');
        checks.due(got == want ? call : log.toString(), got, want);
    }

    private int person() {
        return random.nextInt(12) == 0 ? within(0, 5) : random.nextInt(Math.max(1, m.count(0)));
    }

    private void call() {
        int a = person();
        int b = person();
        int way = random.nextInt(37);
        if (way < 5 || busy == 1 && way < 25) {
            done(a, b);
        } else if (way < 8 || busy == 2 && way < 25) {
            seen(a);
        } else if (way < 10) {
            days();
        } else if (way < 11) {
            images();
        } else {
            asked(random.nextInt(27), a, b);
        }
    }

    private void done(int a, int b) {
        int days = within(1, random.nextBoolean() ? 99 : 4);
        int price = within(0, random.nextBoolean() ? 99 : 9);
        switch (random.nextInt(busy == 1 ? 9 : 5)) {
            case 0: case 1: case 5: case 6:
                due("let " + a + " " + b + " " + days + " " + price, x.let(a, b, days, price), m.let(a, b, days, price));
                break;
            case 2: due("end " + a, x.end(a), m.end(a)); break;
            case 3: case 7: due("teach " + a, x.teach(a), m.teach(a)); break;
            case 8: due("count 13", x.count(13), m.count(13)); break;
            default: due("undo", x.undo(), m.undo()); break;
        }
    }

    private void days() {
        int n = random.nextInt(8) == 0 ? within(0, 200) : upTo(busy == 1 ? 1 : 4);
        due("go " + n, x.go(n), m.go(n));
    }

    private void images() {
        if (random.nextInt(3) == 0) {
            due("back", x.back(), m.back());
        } else {
            due("keep", x.keep(), m.keep());
        }
    }

    private void seen(int a) {
        switch (random.nextInt(5)) {
            case 0: case 1:
                int days = within(1, random.nextBoolean() ? 60 : 12);
                int trait = within(0, 2);
                int much = m.man(a, trait) >= 0 && random.nextBoolean() ? m.man(a, trait) : within(0, 99);
                boolean atLeast = random.nextBoolean();
                due("see " + days + " " + a + " " + trait + " " + much + " " + atLeast,
                        x.see(days, a, trait, much, atLeast), m.see(days, a, trait, much, atLeast));
                break;
            case 2:
                int one = within(0, 23) % Math.max(1, m.count(11) + 1);
                due("strike " + one, x.strike(one), m.strike(one));
                break;
            case 3:
                int n = within(-1, 24) % Math.max(1, m.count(11) + 2);
                due("known " + n, x.known(n) ? 1 : 0, m.known(n) ? 1 : 0);
                break;
            default: due("wears", x.wears(), m.wears()); break;
        }
    }

    private void asked(int which, int a, int b) {
        int n = random.nextInt(3) == 0 ? within(0, 200) : upTo(12);
        switch (which) {
            case 0: int name = Checks.letters(oneOf(NAMES)) + (random.nextInt(4) == 0 ? 1 : 0);
                due("named " + name, x.named(name), m.named(name)); break;
            case 1: two("hand", a, within(0, 6)); break;
            case 2: two("man", a, within(0, 5)); break;
            case 3: two("letter", within(0, Math.max(0, m.count(2) - 1)), within(0, 8)); break;
            case 4: lawAsked(a, b); break;
            case 5: int what = within(0, 4);
                due("ahead " + n + " " + what + " " + a, x.ahead(n, what, a), m.ahead(n, what, a)); break;
            case 6: due("free " + a, x.free(a), m.free(a)); break;
            case 7: two("apart", a, b); break;
            case 8: due("like " + a, x.like(a), m.like(a)); break;
            case 9: two("could", within(0, Math.max(0, m.count(2) - 1)), within(0, random.nextBoolean() ? 999999 : 90000)); break;
            case 10: int person = within(0, 7); due("match " + person, x.match(person), m.match(person)); break;
            case 11: two("auction", a, within(0, 1)); break;
            case 12: due("putOff", x.putOff(), m.putOff()); break;
            case 13: two("ring", a, within(0, 2)); break;
            case 14: due("lessons " + a, x.lessons(a), m.lessons(a)); break;
            case 15: due("rests " + a + " " + b, x.rests(a, b), m.rests(a, b)); break;
            case 16: int k = within(0, 3); due("rest " + a + " " + b + " " + k, x.rest(a, b, k), m.rest(a, b, k)); break;
            case 17: int q = within(0, 6); int w = within(0, 1); due("quiet " + q + " " + w, x.quiet(q, w), m.quiet(q, w)); break;
            case 18: due("wears", x.wears(), m.wears()); break;
            case 19: two("ask", a, within(0, 1)); break;
            case 20: case 21: chanceAsked(); break;
            case 22: case 23: case 24: triedAsked(a, n); break;
            case 25: int c = within(0, 13); due("count " + c, x.count(c), m.count(c)); break;
            default: all(); break;
        }
    }

    private void lawAsked(int a, int b) {
        int what = within(0, 2);
        int price = within(0, 99);
        due("law " + what + " " + a + " " + b + " " + price, x.law(what, a, b, price), m.law(what, a, b, price));
    }

    private void chanceAsked() {
        int seed = within(0, 2147483646);
        int n = within(1, random.nextBoolean() ? 99 : 9);
        int found = random.nextInt(3) > 0 ? 1 + upTo(2) : within(0, 12);
        due("chance " + seed + " " + n + " " + found, x.chance(seed, n, found), m.chance(seed, n, found));
    }

    private void triedAsked(int a, int n) {
        int what = within(0, 4);
        int i = what == 2 ? a : random.nextInt(10) == 0 ? a : 0;
        due("tried " + what + " " + i + " " + n, x.tried(what, i, n), m.tried(what, i, n));
    }

    private void two(String name, int a, int b) {
        long got = 0;
        long want = 0;
        switch (name) {
            case "hand": got = Checks.hand(x, a, b); want = m.hand(a, b); break;
            case "man": got = x.man(a, b); want = m.man(a, b); break;
            case "letter": got = x.letter(a, b); want = m.letter(a, b); break;
            case "apart": got = x.apart(a, b); want = m.apart(a, b); break;
            case "could": got = x.could(a, b); want = m.could(a, b); break;
            case "auction": got = x.auction(a, b); want = m.auction(a, b); break;
            case "ring": got = x.ring(a, b); want = m.ring(a, b); break;
            default: got = x.ask(a, b); want = m.ask(a, b); break;
        }
        due(name + " " + a + " " + b, got, want);
    }

    /** All that can be seen of the state now. */
    private void all() {
        for (int i = 0; i < m.count(0); i++) {
            for (int what = 0; what <= 6; what++) {
                two("hand", i, what);
                two("man", i, what);
            }
        }
        for (int i = 0; i < m.count(2); i++) {
            for (int what = 0; what <= 8; what++) {
                two("letter", i, what);
            }
        }
        for (int what = 0; what <= 13; what++) {
            due("count " + what, x.count(what), m.count(what));
        }
    }
}
