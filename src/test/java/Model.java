import java.math.BigInteger;
import java.util.ArrayDeque;
import java.util.ArrayList;
import java.util.Deque;
import java.util.HashMap;
import java.util.List;
import java.util.Map;
import java.util.Set;

/** The document a second time, written for plainness with the Java library, to compare HandsLet with. */
final class Model {
    static final Set<String> LANGUAGE = Set.of("man", "lease", "letter", "wear", "watch", "seed", "law", "rent",
            "turn", "fine", "or", "and", "not", "slant", "loops", "weight", "purse", "price", "times", "day");
    static final Set<String> NAMES = Set.of("slant", "loops", "weight", "purse", "price", "times", "day");

    private static final class Fault extends RuntimeException {
        final int kind;
        final int place;

        Fault(int kind, int place) {
            this.kind = kind;
            this.place = place;
        }
    }

    private static final class LawError extends RuntimeException {
    }

    private record Token(String letters, int place) {
        boolean isWord() {
            return !letters.isEmpty() && Character.isLowerCase(letters.charAt(0)) && letters.charAt(0) < 128;
        }

        boolean isNumber() {
            return !letters.isEmpty() && letters.charAt(0) >= '0' && letters.charAt(0) <= '9';
        }

        boolean isName() {
            return isWord() && letters.length() <= 6 && !LANGUAGE.contains(letters);
        }
    }

    private record Node(String sign, long value, Node left, Node right) {
        BigInteger work(Map<String, Integer> names) {
            if (sign.equals("number")) {
                return BigInteger.valueOf(value);
            }
            if (NAMES.contains(sign)) {
                return BigInteger.valueOf(names.get(sign));
            }
            BigInteger a = left.work(names);
            if (sign.equals("not")) {
                return bit(a.signum() == 0);
            }
            BigInteger b = right.work(names);
            return within(join(a, b));
        }

        private BigInteger join(BigInteger a, BigInteger b) {
            switch (sign) {
                case "or": return bit(a.signum() != 0 || b.signum() != 0);
                case "and": return bit(a.signum() != 0 && b.signum() != 0);
                case "<": return bit(a.compareTo(b) < 0);
                case "<=": return bit(a.compareTo(b) <= 0);
                case "=": return bit(a.equals(b));
                case "<>": return bit(!a.equals(b));
                case ">=": return bit(a.compareTo(b) >= 0);
                case ">": return bit(a.compareTo(b) > 0);
                case "+": return a.add(b);
                case "-": return a.subtract(b);
                case "*": return a.multiply(b);
                case "/":
                    if (b.signum() == 0) {
                        throw new LawError();
                    }
                    return a.divide(b);
                default: throw new AssertionError(sign);
            }
        }

        private static BigInteger bit(boolean so) {
            return so ? BigInteger.ONE : BigInteger.ZERO;
        }

        private static BigInteger within(BigInteger value) {
            if (value.abs().compareTo(BigInteger.TEN.pow(12)) > 0) {
                throw new LawError();
            }
            return value;
        }
    }

    private record Person(String name, int[] traits, int purse) {
    }

    private record Lease(int hand, int tenant, int from, int days, int price) {
    }

    private record Letter(int writer, int hand, int day) {
    }

    private static final class Text {
        final List<Person> people = new ArrayList<>();
        final List<Lease> leases = new ArrayList<>();
        final List<Letter> letters = new ArrayList<>();
        final Map<String, Integer> settings = new HashMap<>();
        final Map<String, Node> laws = new HashMap<>();
        int knots;
        int lines;

        int setting(String name, int otherwise) {
            return settings.getOrDefault(name, otherwise);
        }
    }

    /** Recursive descent, as the grammar is written. */
    private static final class Parser {
        final String source;
        final Text text = new Text();
        int next;
        Token token;
        int open;

        Parser(String source) {
            this.source = source;
            step();
        }

        void step() {
            while (next < source.length() && (source.charAt(next) == 10 || source.charAt(next) == 32)) {
                next++;
            }
            int from = next;
            if (next == source.length()) {
                token = new Token("", from);
                return;
            }
            String all = source.substring(next);
            String found = null;
            for (String pattern : new String[] {"^[a-z]+", "^[0-9]+", "^(<=|<>|>=)", "^[;()<>=+*/-]"}) {
                java.util.regex.Matcher m = java.util.regex.Pattern.compile(pattern).matcher(all);
                if (found == null && m.find()) {
                    found = m.group();
                }
            }
            if (found == null) {
                found = "?";
            }
            next += found.length();
            token = new Token(found, from);
        }

        Fault fault(int kind) {
            return new Fault(kind, token.place());
        }

        Text parse() {
            while (!token.letters().isEmpty()) {
                line();
                expect(";");
                text.lines++;
            }
            return text;
        }

        void expect(String letters) {
            if (!token.letters().equals(letters)) {
                throw fault(1);
            }
            step();
        }

        void line() {
            switch (token.letters()) {
                case "man": man(); break;
                case "lease": lease(); break;
                case "letter": letter(); break;
                case "wear": setting(100); break;
                case "watch": setting(100); break;
                case "seed": setting(99999); break;
                case "law": law(); break;
                default: throw fault(1);
            }
        }

        int number(int least, int most) {
            if (!token.isNumber()) {
                throw fault(1);
            }
            BigInteger value = new BigInteger(token.letters());
            if (value.compareTo(BigInteger.valueOf(least)) < 0 || value.compareTo(BigInteger.valueOf(most)) > 0) {
                throw fault(2);
            }
            step();
            return value.intValue();
        }

        int person() {
            if (!token.isName()) {
                throw fault(1);
            }
            for (int i = 0; i < text.people.size(); i++) {
                if (text.people.get(i).name().equals(token.letters())) {
                    return i;
                }
            }
            return -1;
        }

        int oldPerson() {
            int found = person();
            if (found < 0) {
                throw fault(4);
            }
            step();
            return found;
        }

        void man() {
            if (text.people.size() == 6) {
                throw fault(2);
            }
            step();
            if (person() >= 0) {
                throw fault(3);
            }
            String name = token.letters();
            step();
            int[] traits = {number(0, 99), number(0, 99), number(0, 99)};
            text.people.add(new Person(name, traits, number(0, 999)));
        }

        void lease() {
            if (text.leases.size() == 10) {
                throw fault(2);
            }
            step();
            int owner = oldPerson();
            if (person() == owner) {
                throw fault(5);
            }
            int tenant = oldPerson();
            text.leases.add(new Lease(owner, tenant, number(0, 99), number(1, 99), number(0, 99)));
        }

        void letter() {
            if (text.letters.size() == 12) {
                throw fault(2);
            }
            step();
            text.letters.add(new Letter(oldPerson(), oldPerson(), number(0, 99)));
        }

        void setting(int most) {
            String name = token.letters();
            if (text.settings.containsKey(name)) {
                throw fault(3);
            }
            step();
            text.settings.put(name, number(0, most));
        }

        void law() {
            step();
            String rule = token.letters();
            if (!Set.of("rent", "turn", "fine").contains(rule)) {
                throw fault(1);
            }
            if (text.laws.containsKey(rule)) {
                throw fault(3);
            }
            step();
            text.laws.put(rule, e());
        }

        String knot() {
            if (text.knots == 64) {
                throw fault(2);
            }
            text.knots++;
            String sign = token.letters();
            step();
            return sign;
        }

        boolean isOne(String... signs) {
            return List.of(signs).contains(token.letters());
        }

        Node e() {
            Node left = a();
            while (isOne("or")) {
                left = new Node(knot(), 0, left, a());
            }
            return left;
        }

        Node a() {
            Node left = b();
            while (isOne("and")) {
                left = new Node(knot(), 0, left, b());
            }
            return left;
        }

        Node b() {
            if (isOne("not")) {
                return new Node(knot(), 0, b(), null);
            }
            return c();
        }

        Node c() {
            Node left = s();
            if (isOne("<", "<=", "=", "<>", ">=", ">")) {
                left = new Node(knot(), 0, left, s());
            }
            return left;
        }

        Node s() {
            Node left = t();
            while (isOne("+", "-")) {
                left = new Node(knot(), 0, left, t());
            }
            return left;
        }

        Node t() {
            Node left = p();
            while (isOne("*", "/")) {
                left = new Node(knot(), 0, left, p());
            }
            return left;
        }

        Node p() {
            if (token.isNumber()) {
                if (new BigInteger(token.letters()).compareTo(BigInteger.valueOf(9999)) > 0) {
                    throw fault(2);
                }
                return new Node("number", new BigInteger(knot()).longValue(), null, null);
            }
            if (NAMES.contains(token.letters())) {
                return new Node(knot(), 0, null, null);
            }
            if (!isOne("(")) {
                throw fault(1);
            }
            if (open == 8) {
                throw fault(2);
            }
            open++;
            step();
            Node inside = e();
            expect(")");
            open--;
            return inside;
        }
    }

    private static final class Hand {
        int[] traits = new int[3];
        int tenant = -2;
        int days;
        int times;
    }

    private static final class Written {
        int how;
        boolean clashed;
        boolean found;
        int[] traits;
    }

    private static final class State {
        int day;
        long last;
        int[] purses;
        Hand[] hands;
        Written[] written;
        int forged;
        int clashes;
        int found;
        int refused;

        State copied() {
            State c = new State();
            c.day = day;
            c.last = last;
            c.purses = purses.clone();
            c.hands = new Hand[hands.length];
            for (int i = 0; i < hands.length; i++) {
                c.hands[i] = new Hand();
                c.hands[i].traits = hands[i].traits.clone();
                c.hands[i].tenant = hands[i].tenant;
                c.hands[i].days = hands[i].days;
                c.hands[i].times = hands[i].times;
            }
            c.written = new Written[written.length];
            for (int i = 0; i < written.length; i++) {
                c.written[i] = new Written();
                c.written[i].how = written[i].how;
                c.written[i].clashed = written[i].clashed;
                c.written[i].found = written[i].found;
                c.written[i].traits = written[i].traits;
            }
            c.forged = forged;
            c.clashes = clashes;
            c.found = found;
            c.refused = refused;
            return c;
        }

        int holder(int hand) {
            return hands[hand].tenant < 0 ? hand : hands[hand].tenant;
        }

        int sum() {
            int sum = 0;
            for (int p : purses) {
                sum += p;
            }
            return sum;
        }
    }

    private enum Bank { NUMBERS, GOES, NEVER, ALWAYS }

    /** In what way days are played. */
    private static final class Way {
        Bank bank = Bank.GOES;
        int absent = -1;
        boolean rentFree;
        boolean fineFree;
        int wear;
    }

    private record Seen(int days, int hand, int trait, int much, boolean atLeast, int strikes) {
    }

    private StringBuilder tape = new StringBuilder();
    private Text text = new Text();
    private State state = begun(text);
    private State image;
    private final Deque<State> undos = new ArrayDeque<>();
    private final List<Seen> seen = new ArrayList<>();
    private int knownBy = -1;
    private int faultKind;
    private int faultPlace = -1;

    private static State begun(Text text) {
        State s = new State();
        s.last = text.setting("seed", 0);
        int people = text.people.size();
        s.purses = new int[people];
        s.hands = new Hand[people];
        for (int i = 0; i < people; i++) {
            s.purses[i] = text.people.get(i).purse();
            s.hands[i] = new Hand();
            for (int t = 0; t < 3; t++) {
                s.hands[i].traits[t] = 1000 * text.people.get(i).traits()[t];
            }
        }
        s.written = new Written[text.letters.size()];
        for (int i = 0; i < s.written.length; i++) {
            s.written[i] = new Written();
        }
        return s;
    }

    private Way way(Bank bank) {
        Way way = new Way();
        way.bank = bank;
        way.wear = text.setting("wear", 20);
        return way;
    }

    private long lawValue(State s, String rule, int hand, int man, int price) {
        Map<String, Integer> names = new HashMap<>();
        names.put("slant", s.hands[hand].traits[0] / 1000);
        names.put("loops", s.hands[hand].traits[1] / 1000);
        names.put("weight", s.hands[hand].traits[2] / 1000);
        names.put("purse", s.purses[man]);
        names.put("price", price);
        names.put("times", s.hands[hand].times);
        names.put("day", s.day);
        Node law = text.laws.get(rule);
        if (law == null) {
            return Long.MIN_VALUE;
        }
        try {
            return law.work(names).longValue();
        } catch (LawError e) {
            return Long.MIN_VALUE;
        }
    }

    private int lawWithin(long value, int most, int otherwise) {
        if (value == Long.MIN_VALUE) {
            return otherwise;
        }
        return (int) Math.max(0, Math.min(most, value));
    }

    private boolean lets(State s, Way way, int hand, int man, int days, int price) {
        int rent = way.rentFree ? 0 : lawWithin(lawValue(s, "rent", hand, man, price), 999, price);
        if (s.hands[hand].tenant >= 0 || s.purses[man] < rent) {
            return false;
        }
        s.hands[hand].tenant = man;
        s.hands[hand].days = days;
        s.purses[man] -= rent;
        s.purses[hand] = Math.min(9999, s.purses[hand] + rent);
        return true;
    }

    private void comesBack(State s, Way way, int hand) {
        Hand h = s.hands[hand];
        long turn = lawWithin(lawValue(s, "turn", hand, h.tenant, 0), 1000, 10 * way.wear);
        for (int t = 0; t < 3; t++) {
            long more = 1000L * text.people.get(h.tenant).traits()[t] - h.traits[t];
            h.traits[t] += (int) (more * turn / 1000);
        }
        h.tenant = -2;
        h.days = 0;
        h.times++;
    }

    private void day(State s, Way way) {
        for (Lease lease : text.leases) {
            if (lease.from() == s.day && lease.tenant() != way.absent
                    && !lets(s, way, lease.hand(), lease.tenant(), lease.days(), lease.price())) {
                s.refused++;
            }
        }
        List<Integer> forgedToday = new ArrayList<>();
        List<Integer> handsToday = new ArrayList<>();
        for (int l = 0; l < text.letters.size(); l++) {
            Letter letter = text.letters.get(l);
            if (letter.day() != s.day || letter.writer() == way.absent) {
                continue;
            }
            Written w = s.written[l];
            w.traits = s.hands[letter.hand()].traits.clone();
            w.how = s.holder(letter.hand()) == letter.writer() ? 1 : 2;
            if (w.how == 2) {
                for (int t = 0; t < 3; t++) {
                    w.traits[t] = (w.traits[t] + 1000 * text.people.get(letter.writer()).traits()[t]) / 2;
                }
                forgedToday.add(l);
                s.forged++;
            }
            if (handsToday.contains(letter.hand())) {
                w.clashed = true;
                s.clashes++;
            }
            handsToday.add(letter.hand());
        }
        if (!forgedToday.isEmpty() && looks(s, way)) {
            for (int l : forgedToday) {
                Letter letter = text.letters.get(l);
                s.written[l].found = true;
                s.found++;
                int fine = way.fineFree ? 0
                        : lawWithin(lawValue(s, "fine", letter.hand(), letter.writer(), 0), 999, 10);
                s.purses[letter.writer()] = Math.max(0, s.purses[letter.writer()] - fine);
            }
        }
        for (int h = 0; h < s.hands.length; h++) {
            if (s.hands[h].tenant >= 0 && --s.hands[h].days == 0) {
                comesBack(s, way, h);
            }
        }
        s.day++;
    }

    private boolean looks(State s, Way way) {
        int watch = text.setting("watch", 0);
        switch (way.bank) {
            case NEVER: return false;
            case ALWAYS: return true;
            case GOES: return watch >= 50;
            default: break;
        }
        if (watch == 0) {
            return false;
        }
        if (watch == 100) {
            return true;
        }
        BigInteger next = BigInteger.valueOf(s.last).multiply(BigInteger.valueOf(1103515245)).add(BigInteger.valueOf(12345));
        s.last = next.mod(BigInteger.ONE.shiftLeft(31)).longValue();
        return s.last / 65536 % 100 < watch;
    }

    private State later(State from, Way way, int days) {
        State s = from.copied();
        for (int i = 0; i < days; i++) {
            day(s, way);
        }
        return s;
    }

    private boolean person(int i) {
        return i >= 0 && i < text.people.size();
    }

    private boolean letterIs(int i) {
        return i >= 0 && i < text.letters.size();
    }

    private int apartOf(int[] traits, int man) {
        int sum = 0;
        for (int t = 0; t < 3; t++) {
            sum += Math.abs(traits[t] - 1000 * text.people.get(man).traits()[t]);
        }
        return sum;
    }

    private void note() {
        undos.push(state.copied());
        if (undos.size() > 20) {
            undos.removeLast();
        }
    }

    // ---- the face

    int feed(int... five) {
        if (tape.length() + 20 > 700) {
            return -1;
        }
        for (int v : five) {
            for (int shift = 24; shift >= 0; shift -= 8) {
                tape.append((char) (v >>> shift & 255));
            }
        }
        return tape.length();
    }

    int text(int n) {
        if (n < 0 || n > tape.length()) {
            return -2;
        }
        String source = tape.substring(0, n);
        tape = new StringBuilder();
        try {
            text = new Parser(source).parse();
        } catch (Fault fault) {
            faultKind = fault.kind;
            faultPlace = fault.place;
            return -1;
        }
        faultKind = 0;
        faultPlace = -1;
        state = begun(text);
        image = null;
        undos.clear();
        seen.clear();
        knownBy = -1;
        return text.lines;
    }

    int fault(int what) {
        return what == 0 ? faultKind : what == 1 ? faultPlace : -1;
    }

    int named(int letters) {
        for (int i = 0; i < text.people.size(); i++) {
            if (Checks.letters(text.people.get(i).name()) == letters) {
                return i;
            }
        }
        return -1;
    }

    /** NONE of no use here: the caller tells by -1001 and -1002 which exception is due. */
    int hand(int hand, int what) {
        if (!person(hand)) {
            return -1001;
        }
        Hand h = state.hands[hand];
        switch (what) {
            case 0: case 1: case 2: return h.traits[what];
            case 3: return h.tenant;
            case 4: return h.days;
            case 5: return h.times;
            case 6: return state.holder(hand);
            default: return -1002;
        }
    }

    int man(int man, int what) {
        if (!person(man) || what < 0 || what > 5) {
            return -1;
        }
        if (what < 3) {
            return text.people.get(man).traits()[what];
        }
        if (what == 3) {
            return state.purses[man];
        }
        int bits = 0;
        for (int h = 0; h < state.hands.length; h++) {
            bits += state.holder(h) == man ? 1 << h : 0;
        }
        int forged = 0;
        for (int l = 0; l < text.letters.size(); l++) {
            forged += text.letters.get(l).writer() == man && state.written[l].how == 2 ? 1 : 0;
        }
        return what == 4 ? bits : forged;
    }

    int letter(int letter, int what) {
        if (!letterIs(letter) || what < 0 || what > 8) {
            return -1;
        }
        Letter l = text.letters.get(letter);
        Written w = state.written[letter];
        switch (what) {
            case 0: return l.writer();
            case 1: return l.hand();
            case 2: return l.day();
            case 3: return w.how;
            case 4: return w.clashed ? 1 : 0;
            case 5: return w.found ? 1 : 0;
            default: return w.how == 0 ? -2 : w.traits[what - 6];
        }
    }

    long law(int what, int hand, int man, int price) {
        if (what < 0 || what > 2 || !person(hand) || !person(man) || what == 0 && (price < 0 || price > 99)) {
            return Long.MIN_VALUE;
        }
        return lawValue(state, List.of("rent", "turn", "fine").get(what), hand, man, what == 0 ? price : 0);
    }

    int let(int hand, int man, int days, int price) {
        if (!person(hand) || !person(man) || hand == man || days < 1 || days > 99 || price < 0 || price > 99) {
            return -1;
        }
        State before = state.copied();
        if (!lets(state, way(Bank.NUMBERS), hand, man, days, price)) {
            return -2;
        }
        undos.push(before);
        if (undos.size() > 20) {
            undos.removeLast();
        }
        return state.purses[man];
    }

    int end(int hand) {
        if (!person(hand)) {
            return -1;
        }
        if (state.hands[hand].tenant < 0) {
            return -2;
        }
        note();
        comesBack(state, way(Bank.NUMBERS), hand);
        return state.hands[hand].times;
    }

    private void lesson(int[] traits, int owner) {
        for (int t = 0; t < 3; t++) {
            int goal = 1000 * text.people.get(owner).traits()[t];
            int half = Math.abs(goal - traits[t]) / 2;
            traits[t] += goal > traits[t] ? half : -half;
        }
    }

    int teach(int hand) {
        if (!person(hand)) {
            return -1;
        }
        if (state.hands[hand].tenant >= 0) {
            return -2;
        }
        note();
        lesson(state.hands[hand].traits, hand);
        return apartOf(state.hands[hand].traits, hand);
    }

    int go(int n) {
        if (n < 0 || n > 200 || state.day + n > 9800) {
            return -1;
        }
        if (n > 0) {
            undos.clear();
        }
        state = later(state, way(Bank.NUMBERS), n);
        return state.day;
    }

    int ahead(int n, int what, int i) {
        if (n < 0 || n > 200 || what < 0 || what > 4 || (what == 0 || what == 3) && !person(i)) {
            return -1;
        }
        State s = later(state, way(Bank.GOES), n);
        switch (what) {
            case 0: return s.purses[i];
            case 1: return s.forged - state.forged;
            case 2: return s.clashes - state.clashes;
            case 3: return s.hands[i].traits[0];
            default: return s.found - state.found;
        }
    }

    int free(int hand) {
        if (!person(hand)) {
            return -1;
        }
        for (int n = 0; n <= 199; n++) {
            if (later(state, way(Bank.GOES), n).hands[hand].tenant < 0) {
                return n;
            }
        }
        return -2;
    }

    int apart(int hand, int man) {
        return person(hand) && person(man) ? apartOf(state.hands[hand].traits, man) : -1;
    }

    int like(int hand) {
        int best = -1;
        for (int man = text.people.size() - 1; man >= 0 && person(hand); man--) {
            if (best < 0 || apart(hand, man) <= apart(hand, best)) {
                best = man;
            }
        }
        return best;
    }

    int could(int letter, int much) {
        if (!letterIs(letter) || much < 0 || much > 999999) {
            return -1;
        }
        if (state.written[letter].how == 0) {
            return -2;
        }
        int bits = 0;
        for (int man = 0; man < text.people.size(); man++) {
            bits += apartOf(state.written[letter].traits, man) <= much ? 1 << man : 0;
        }
        return bits;
    }

    private int[] bestMatch;
    private int bestPairs;
    private int bestCosts;

    private void tryMatches(int[] hands, int man, int pairs, int costs) {
        if (man == hands.length) {
            if (pairs > bestPairs || pairs == bestPairs && costs < bestCosts) {
                bestMatch = hands.clone();
                bestPairs = pairs;
                bestCosts = costs;
            }
            return;
        }
        for (int h = 0; h < hands.length; h++) {
            boolean taken = h == man || state.hands[h].tenant >= 0;
            for (int m = 0; m < man; m++) {
                taken |= hands[m] == h;
            }
            if (!taken) {
                hands[man] = h;
                tryMatches(hands, man + 1, pairs + 1, costs + apart(h, man));
            }
        }
        hands[man] = -2;
        tryMatches(hands, man + 1, pairs, costs);
    }

    int match(int what) {
        if (what < 0 || what > 7) {
            return -1;
        }
        bestPairs = -1;
        tryMatches(new int[text.people.size()], 0, 0, 0);
        if (what > 5) {
            return what == 6 ? bestPairs : bestCosts;
        }
        return person(what) ? bestMatch[what] : -2;
    }

    int auction(int hand, int what) {
        if (!person(hand) || what < 0 || what > 1) {
            return -1;
        }
        List<Integer> bids = new ArrayList<>();
        List<Integer> who = new ArrayList<>();
        for (int man = 0; man < text.people.size(); man++) {
            if (man != hand) {
                who.add(man);
                bids.add(Math.max(0, Math.min(state.purses[man], 99 - apart(hand, man) / 1000)));
            }
        }
        if (who.isEmpty()) {
            return -2;
        }
        int most = java.util.Collections.max(bids);
        int winner = who.get(bids.indexOf(most));
        bids.remove(bids.indexOf(most));
        return what == 0 ? winner : bids.isEmpty() ? 0 : java.util.Collections.max(bids);
    }

    int putOff() {
        int sum = 0;
        for (int h = 0; h < text.people.size(); h++) {
            List<Integer> days = new ArrayList<>();
            for (Letter l : text.letters) {
                if (l.hand() == h && l.day() >= state.day) {
                    days.add(l.day());
                }
            }
            java.util.Collections.sort(days);
            int last = -1;
            for (int d : days) {
                last = Math.max(d, last + 1);
                sum += last - d;
            }
        }
        return sum;
    }

    int ring(int man, int what) {
        if (!person(man) || what < 0 || what > 2) {
            return -1;
        }
        List<Integer> path = new ArrayList<>(List.of(man));
        int outcome = 0;
        int steps = 0;
        int at = man;
        while (state.hands[at].tenant >= 0) {
            at = state.hands[at].tenant;
            steps++;
            if (path.contains(at)) {
                outcome = at == man ? 1 : 2;
                break;
            }
            path.add(at);
        }
        int bits = 0;
        for (int p : path) {
            bits += 1 << p;
        }
        return what == 0 ? outcome : what == 1 ? steps : bits;
    }

    int lessons(int hand) {
        if (!person(hand)) {
            return -1;
        }
        int[] traits = state.hands[hand].traits.clone();
        int many = 0;
        while (true) {
            boolean near = true;
            for (int t = 0; t < 3; t++) {
                near &= Math.abs(traits[t] - 1000 * text.people.get(hand).traits()[t]) < 1000;
            }
            if (near) {
                return many;
            }
            lesson(traits, hand);
            many++;
        }
    }

    private List<Integer> restsOf(int one, int other) {
        int[][][] gains = {
            {{2, 2}, {1, state.purses[one] / 10}},
            {{state.purses[other] / 10, 1}, {apart(one, other) / 20000, apart(other, one) / 20000}}};
        List<Integer> found = new ArrayList<>();
        for (int a = 0; a < 2; a++) {
            for (int b = 0; b < 2; b++) {
                if (gains[1 - a][b][0] <= gains[a][b][0] && gains[a][1 - b][1] <= gains[a][b][1]) {
                    found.add(10 * a + b);
                }
            }
        }
        return found;
    }

    int rests(int one, int other) {
        return !person(one) || !person(other) || one == other ? -1 : restsOf(one, other).size();
    }

    int rest(int one, int other, int k) {
        if (!person(one) || !person(other) || one == other || k < 0) {
            return -1;
        }
        List<Integer> found = restsOf(one, other);
        return k < found.size() ? found.get(k) : -2;
    }

    long quiet(int n, int what) {
        if (n < 0 || n > 6 || what < 0 || what > 1) {
            return -1;
        }
        BigInteger above = BigInteger.valueOf(100 - text.setting("watch", 0)).pow(n);
        BigInteger below = BigInteger.valueOf(100).pow(n);
        return (what == 0 ? above : below).divide(above.gcd(below)).longValue();
    }

    int see(int days, int hand, int trait, int much, boolean atLeast) {
        if (days < 1 || days > 60 || !person(hand) || trait < 0 || trait > 2 || much < 0 || much > 99
                || seen.size() == 24) {
            return -1;
        }
        seen.add(new Seen(days, hand, trait, much, atLeast, -1));
        return seen.size() - 1;
    }

    int strike(int one) {
        if (one < 0 || one >= seen.size() || seen.size() == 24) {
            return -1;
        }
        seen.add(new Seen(0, 0, 0, 0, false, one));
        return seen.size() - 1;
    }

    boolean known(int n) {
        if (n < -1 || n > seen.size()) {
            return false;
        }
        knownBy = n;
        return true;
    }

    private int knownMany() {
        return knownBy < 0 ? seen.size() : knownBy;
    }

    private boolean isStruck(int one) {
        for (int by = one + 1; by < knownMany(); by++) {
            if (seen.get(by).strikes() == one && !isStruck(by)) {
                return true;
            }
        }
        return false;
    }

    private State fromText(int wear, int days) {
        Way way = way(Bank.GOES);
        way.wear = wear;
        return later(begun(text), way, days);
    }

    int wears() {
        int bits = 0;
        for (int w = 0; w <= 10; w++) {
            boolean so = true;
            for (int i = 0; i < knownMany(); i++) {
                Seen s = seen.get(i);
                if (s.strikes() < 0 && !isStruck(i)) {
                    int trait = fromText(10 * w, s.days()).hands[s.hand()].traits[s.trait()] / 1000;
                    so &= s.atLeast() ? trait >= s.much() : trait < s.much();
                }
            }
            bits += so ? 1 << w : 0;
        }
        return bits;
    }

    int ask(int hand, int what) {
        if (!person(hand) || what < 0 || what > 1) {
            return -1;
        }
        int bits = wears();
        int bestLeft = 99;
        int best = 0;
        int[] slants = new int[11];
        for (int w = 0; w <= 10; w++) {
            slants[w] = fromText(10 * w, 60).hands[hand].traits[0] / 1000;
        }
        for (int much = 1; much <= 99; much++) {
            int yes = 0;
            int no = 0;
            for (int w = 0; w <= 10; w++) {
                if ((bits >> w & 1) == 1) {
                    if (slants[w] >= much) {
                        yes++;
                    } else {
                        no++;
                    }
                }
            }
            if (Math.max(yes, no) < bestLeft) {
                bestLeft = Math.max(yes, no);
                best = much;
            }
        }
        return what == 0 ? best : bestLeft;
    }

    int chance(int seed, int n, int found) {
        if (seed < 0 || n < 1 || n > 99 || found < 0 || found > 12) {
            return -1;
        }
        int many = 0;
        long last = seed;
        for (int i = 0; i < 10; i++) {
            State from = state.copied();
            from.last = last;
            State s = later(from, way(Bank.NUMBERS), n);
            last = s.last;
            many += s.found - state.found >= found ? 1 : 0;
        }
        return many;
    }

    int tried(int what, int i, int n) {
        if (what < 0 || what > 4 || n < 0 || n > 200 || (what == 2 ? !person(i) : i != 0)) {
            return -1;
        }
        Way way = way(what == 0 ? Bank.NEVER : what == 1 ? Bank.ALWAYS : Bank.GOES);
        if (what == 2) {
            way.absent = i;
        }
        way.rentFree = what == 3;
        way.fineFree = what == 4;
        return later(state, way, n).sum();
    }

    int undo() {
        if (undos.isEmpty()) {
            return -1;
        }
        state = undos.pop();
        return undos.size();
    }

    int keep() {
        image = state.copied();
        return state.day;
    }

    int back() {
        if (image == null) {
            return -1;
        }
        state = image.copied();
        undos.clear();
        return state.day;
    }

    int count(int what) {
        int let = 0;
        for (Hand h : state.hands) {
            let += h.tenant >= 0 ? 1 : 0;
        }
        switch (what) {
            case 0: return text.people.size();
            case 1: return text.leases.size();
            case 2: return text.letters.size();
            case 3: return text.knots;
            case 4: return state.day;
            case 5: return let;
            case 6: return state.sum();
            case 7: return state.forged;
            case 8: return state.clashes;
            case 9: return state.found;
            case 10: return state.refused;
            case 11: return seen.size();
            case 12: return knownMany();
            case 13: return undos.size();
            default: return -1;
        }
    }
}
