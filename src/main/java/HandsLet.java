import java.util.NoSuchElementException;

/** Hands let by the quarter: people, leases, letters and a bank, told as a text and played day by day. */
public final class HandsLet {
    public static final int NONE = -1;

    /** The document's second refusal; a HAND that isn't LET has it in place of a TENANT, too. */
    private static final int NOT_SO = -2;
    private static final long ERROR = Long.MIN_VALUE;

    private static final int MOST_PEOPLE = 6;
    private static final int MOST_LEASES = 10;
    private static final int MOST_LETTERS = 12;
    private static final int MOST_KNOTS = 64;
    private static final int MOST_OPEN = 8;
    private static final int MOST_SEEN = 24;
    private static final int MOST_UNDONE = 20;
    private static final int TAPE_LENGTH = 700;
    private static final int FED_BYTES = 20;
    private static final int TRAITS = 3;
    private static final int MOST_PURSE = 9999;
    private static final int LAST_TOLD_DAY = 99;
    private static final int LAST_DAY = 9800;
    private static final int MOST_DAYS = 200;
    private static final int ASKED_DAYS = 60;
    private static final int WEAR_STEPS = 11;
    private static final int WEAR_UNTOLD = 20;

    private static final int LAW_RENT = 0;
    private static final int LAW_TURN = 1;
    private static final int LAW_FINE = 2;
    private static final int LAWS = 3;

    private static final int SET_WEAR = 0;
    private static final int SET_WATCH = 1;
    private static final int SET_SEED = 2;
    private static final int SETTINGS = 3;

    private static final int LEASE_HAND = 0;
    private static final int LEASE_TENANT = 1;
    private static final int LEASE_FROM = 2;
    private static final int LEASE_DAYS = 3;
    private static final int LEASE_PRICE = 4;
    private static final int LEASE_PARTS = 5;

    private static final int LETTER_WRITER = 0;
    private static final int LETTER_HAND = 1;
    private static final int LETTER_DAY = 2;
    private static final int LETTER_PARTS = 3;

    private static final int GOOD = 1;
    private static final int FORGED = 2;

    private static final int BY_NUMBERS = 0;
    private static final int AS_IT_GOES = 1;
    private static final int NEVER_LOOKS = 2;
    private static final int ALWAYS_LOOKS = 3;

    private static final int FAULT_TOKEN = 1;
    private static final int FAULT_TOO_MUCH = 2;
    private static final int FAULT_TOLD = 3;
    private static final int FAULT_NOBODY = 4;
    private static final int FAULT_OWNER = 5;

    private static final int TEXT_END = 0;
    private static final int BAD = 1;
    private static final int NUMBER = 2;
    private static final int WORD = 3;
    private static final int SEMICOLON = 4;
    private static final int OPEN = 5;
    private static final int CLOSE = 6;
    private static final int LESS = 7;
    private static final int AT_MOST = 8;
    private static final int EQUAL = 9;
    private static final int UNLIKE = 10;
    private static final int AT_LEAST = 11;
    private static final int MORE = 12;
    private static final int PLUS = 13;
    private static final int MINUS = 14;
    private static final int BY = 15;
    private static final int OVER = 16;

    /** A word of the language has the kind FIRST_WORD and its number in this row; the kinds below follow it. */
    private static final String LANGUAGE =
            "man lease letter wear watch seed law rent turn fine or and not slant loops weight purse price times day";
    private static final int LANGUAGE_WORDS = 20;
    private static final int FIRST_WORD = 20;
    private static final int MAN = 20;
    private static final int LEASE = 21;
    private static final int LETTER = 22;
    private static final int WEAR = 23;
    private static final int LAW = 26;
    private static final int RENT = 27;
    private static final int OR = 30;
    private static final int AND = 31;
    private static final int NOT = 32;
    private static final int SLANT = 33;
    private static final int DAY = 39;
    private static final int LAW_NAMES = 7;

    private final Reader reader = new Reader();
    private Plan plan = new Plan();
    private Plan draft = new Plan();
    private final World now = new World();
    private final World image = new World();
    private final World trial = new World();
    private boolean hasImage;
    private final Course course = new Course();
    private final Sight sight = new Sight();
    private final Deeds deeds = new Deeds();
    private final Matching matching = new Matching();
    private final int[] slants = new int[WEAR_STEPS];

    public HandsLet() {
    }

    // ---- the text

    public int feed(int a, int b, int c, int d, int e) {
        Tokens tokens = reader.tokens;
        if (tokens.tapeLength > TAPE_LENGTH - FED_BYTES) {
            return NONE;
        }
        tokens.put(a);
        tokens.put(b);
        tokens.put(c);
        tokens.put(d);
        tokens.put(e);
        return tokens.tapeLength;
    }

    public int text(int n) {
        if (n < 0 || n > reader.tokens.tapeLength) {
            return NOT_SO;
        }
        reader.read(n, draft);
        if (reader.faultKind != 0) {
            return NONE;
        }
        Plan old = plan;
        plan = draft;
        draft = old;
        now.begin(plan);
        hasImage = false;
        sight.clear();
        deeds.clear();
        return plan.lines;
    }

    public int fault(int what) {
        if (what == 0) {
            return reader.faultKind;
        }
        return what == 1 ? reader.faultPlace : NONE;
    }

    public int named(int letters) {
        return plan.personNamed(letters);
    }

    // ---- what is now

    private boolean isPerson(int number) {
        return number >= 0 && number < plan.people;
    }

    private boolean isLetter(int number) {
        return number >= 0 && number < plan.letterCount;
    }

    public int hand(int hand, int what) throws IndexOutOfBoundsException, NoSuchElementException {
        if (!isPerson(hand)) {
            throw new IndexOutOfBoundsException();
        }
        switch (what) {
            case 0:
            case 1:
            case 2:
                return now.traits[hand * TRAITS + what];
            case 3:
                return now.tenants[hand];
            case 4:
                return now.daysLeft[hand];
            case 5:
                return now.timesLet[hand];
            case 6:
                return now.holderOf(hand);
            default:
                throw new NoSuchElementException();
        }
    }

    public int man(int man, int what) {
        if (!isPerson(man)) {
            return NONE;
        }
        switch (what) {
            case 0:
            case 1:
            case 2:
                return plan.traits[man * TRAITS + what];
            case 3:
                return now.purses[man];
            case 4:
                return handsHeldBy(man);
            case 5:
                return lettersForgedBy(man);
            default:
                return NONE;
        }
    }

    private int handsHeldBy(int man) {
        int bits = 0;
        for (int hand = 0; hand < plan.people; hand++) {
            if (now.holderOf(hand) == man) {
                bits |= 1 << hand;
            }
        }
        return bits;
    }

    private int lettersForgedBy(int man) {
        int many = 0;
        for (int letter = 0; letter < plan.letterCount; letter++) {
            if (plan.letters[letter][LETTER_WRITER] == man && now.written[letter] == FORGED) {
                many++;
            }
        }
        return many;
    }

    public int letter(int letter, int what) {
        if (!isLetter(letter)) {
            return NONE;
        }
        switch (what) {
            case 0:
            case 1:
            case 2:
                return plan.letters[letter][what];
            case 3:
                return now.written[letter];
            case 4:
                return now.clashed[letter];
            case 5:
                return now.caught[letter];
            case 6:
            case 7:
            case 8:
                return now.written[letter] == 0 ? NOT_SO : now.letterTraits[letter * TRAITS + what - 6];
            default:
                return NONE;
        }
    }

    public long law(int what, int hand, int man, int price) {
        if (what < 0 || what >= LAWS || !isPerson(hand) || !isPerson(man)) {
            return ERROR;
        }
        if (what == LAW_RENT && !isPrice(price)) {
            return ERROR;
        }
        course.sums.tellNames(now, hand, man, what == LAW_RENT ? price : 0);
        return course.sums.work(plan, what);
    }

    private static boolean isPrice(int price) {
        return price >= 0 && price <= 99;
    }

    // ---- what is done

    public int let(int hand, int man, int days, int price) {
        if (!isPerson(hand) || !isPerson(man) || hand == man) {
            return NONE;
        }
        if (days < 1 || days > 99 || !isPrice(price)) {
            return NONE;
        }
        course.begin(plan, now, BY_NUMBERS);
        int rent = course.bounded(LAW_RENT, hand, man, price);
        if (!now.mayLet(hand, man, rent)) {
            return NOT_SO;
        }
        deeds.note(now, hand);
        now.handOver(hand, man, days, rent);
        return now.purses[man];
    }

    public int end(int hand) {
        if (!isPerson(hand)) {
            return NONE;
        }
        if (!now.isLet(hand)) {
            return NOT_SO;
        }
        deeds.note(now, hand);
        course.begin(plan, now, BY_NUMBERS);
        course.comeBack(hand);
        return now.timesLet[hand];
    }

    public int teach(int hand) {
        if (!isPerson(hand)) {
            return NONE;
        }
        if (now.isLet(hand)) {
            return NOT_SO;
        }
        deeds.note(now, hand);
        for (int at = hand * TRAITS; at < hand * TRAITS + TRAITS; at++) {
            now.traits[at] += (1000 * plan.traits[at] - now.traits[at]) / 2;
        }
        return distance(now.traits, hand, hand);
    }

    public int go(int n) {
        if (n < 0 || n > MOST_DAYS || now.day + n > LAST_DAY) {
            return NONE;
        }
        course.begin(plan, now, BY_NUMBERS);
        course.play(n);
        if (n > 0) {
            deeds.clear();
        }
        return now.day;
    }

    // ---- what comes

    private void tryFromNow(int bank) {
        trial.copy(now);
        course.begin(plan, trial, bank);
    }

    public int ahead(int n, int what, int i) {
        if (n < 0 || n > MOST_DAYS || what < 0 || what > 4) {
            return NONE;
        }
        if ((what == 0 || what == 3) && !isPerson(i)) {
            return NONE;
        }
        tryFromNow(AS_IT_GOES);
        course.play(n);
        switch (what) {
            case 0:
                return trial.purses[i];
            case 1:
                return trial.forgedSoFar - now.forgedSoFar;
            case 2:
                return trial.clashesSoFar - now.clashesSoFar;
            case 3:
                return trial.traits[i * TRAITS];
            default:
                return trial.foundSoFar - now.foundSoFar;
        }
    }

    /** A HAND that is LET is always back behind its last DAY, which is the 99th at most: never -2. */
    public int free(int hand) {
        return isPerson(hand) ? now.daysLeft[hand] : NONE;
    }

    // ---- who is like whom

    private int distance(int[] traits, int number, int man) {
        int sum = 0;
        for (int trait = 0; trait < TRAITS; trait++) {
            sum += Math.abs(traits[number * TRAITS + trait] - 1000 * plan.traits[man * TRAITS + trait]);
        }
        return sum;
    }

    public int apart(int hand, int man) {
        return isPerson(hand) && isPerson(man) ? distance(now.traits, hand, man) : NONE;
    }

    public int like(int hand) {
        if (!isPerson(hand)) {
            return NONE;
        }
        int nearest = 0;
        for (int man = 1; man < plan.people; man++) {
            if (distance(now.traits, hand, man) < distance(now.traits, hand, nearest)) {
                nearest = man;
            }
        }
        return nearest;
    }

    public int could(int letter, int much) {
        if (!isLetter(letter) || much < 0 || much > 999999) {
            return NONE;
        }
        if (now.written[letter] == 0) {
            return NOT_SO;
        }
        int bits = 0;
        for (int man = 0; man < plan.people; man++) {
            if (distance(now.letterTraits, letter, man) <= much) {
                bits |= 1 << man;
            }
        }
        return bits;
    }

    public int match(int what) {
        if (what < 0 || what > 7) {
            return NONE;
        }
        for (int man = 0; man < plan.people; man++) {
            for (int hand = 0; hand < plan.people; hand++) {
                boolean fits = man != hand && !now.isLet(hand);
                matching.tell(man, hand, fits ? distance(now.traits, hand, man) : NONE);
            }
        }
        matching.solve(plan.people);
        if (what == 6) {
            return matching.pairs;
        }
        if (what == 7) {
            return matching.costs;
        }
        return isPerson(what) ? matching.chosen[what] : NOT_SO;
    }

    public int auction(int hand, int what) {
        if (!isPerson(hand) || what < 0 || what > 1) {
            return NONE;
        }
        int winner = highestBidder(hand, hand);
        if (winner == NONE) {
            return NOT_SO;
        }
        if (what == 0) {
            return winner;
        }
        int second = highestBidder(hand, winner);
        return second == NONE ? 0 : bid(hand, second);
    }

    private int highestBidder(int hand, int without) {
        int highest = NONE;
        for (int man = 0; man < plan.people; man++) {
            if (man == hand || man == without) {
                continue;
            }
            if (highest == NONE || bid(hand, man) > bid(hand, highest)) {
                highest = man;
            }
        }
        return highest;
    }

    private int bid(int hand, int man) {
        int worth = 99 - distance(now.traits, hand, man) / 1000;
        return Math.max(0, Math.min(now.purses[man], worth));
    }

    public int putOff() {
        int sum = 0;
        for (int hand = 0; hand < plan.people; hand++) {
            sum += putOffIn(hand);
        }
        return sum;
    }

    /** One LETTER may be written each DAY; all others that wait wait a DAY more. */
    private int putOffIn(int hand) {
        int sum = 0;
        int waiting = 0;
        for (int day = now.day; day <= LAST_TOLD_DAY + MOST_LETTERS; day++) {
            waiting += lettersTold(hand, day);
            waiting = Math.max(0, waiting - 1);
            sum += waiting;
        }
        return sum;
    }

    private int lettersTold(int hand, int day) {
        int many = 0;
        for (int letter = 0; letter < plan.letterCount; letter++) {
            int[] row = plan.letters[letter];
            if (row[LETTER_HAND] == hand && row[LETTER_DAY] == day) {
                many++;
            }
        }
        return many;
    }

    public int ring(int man, int what) {
        if (!isPerson(man) || what < 0 || what > 2) {
            return NONE;
        }
        int at = man;
        int steps = 0;
        int bits = 1 << man;
        int outcome = 0;
        while (steps < MOST_PEOPLE && outcome == 0 && now.isLet(at)) {
            at = now.tenants[at];
            steps++;
            if ((bits >> at & 1) != 0) {
                outcome = at == man ? 1 : 2;
            }
            bits |= 1 << at;
        }
        if (what == 0) {
            return outcome;
        }
        return what == 1 ? steps : bits;
    }

    public int lessons(int hand) {
        if (!isPerson(hand)) {
            return NONE;
        }
        int most = 0;
        for (int at = hand * TRAITS; at < hand * TRAITS + TRAITS; at++) {
            int between = Math.abs(1000 * plan.traits[at] - now.traits[at]);
            int many = 0;
            for (; many < 100 && between >= 1000; many++) {
                between -= between / 2;
            }
            most = Math.max(most, many);
        }
        return most;
    }

    // ---- the game of two

    private boolean arePlayers(int one, int other) {
        return isPerson(one) && isPerson(other) && one != other;
    }

    private int gain(int one, int other, int oneLets, int otherLets) {
        if (oneLets == 0) {
            return otherLets == 0 ? 2 : 1;
        }
        if (otherLets == 0) {
            return now.purses[other] / 10;
        }
        return distance(now.traits, one, other) / 20000;
    }

    private boolean isRest(int one, int other, int a, int b) {
        return gain(one, other, 1 - a, b) <= gain(one, other, a, b)
                && gain(other, one, 1 - b, a) <= gain(other, one, b, a);
    }

    public int rests(int one, int other) {
        if (!arePlayers(one, other)) {
            return NONE;
        }
        int many = 0;
        for (int pair = 0; pair < 4; pair++) {
            if (isRest(one, other, pair / 2, pair % 2)) {
                many++;
            }
        }
        return many;
    }

    public int rest(int one, int other, int k) {
        if (!arePlayers(one, other) || k < 0) {
            return NONE;
        }
        int passed = 0;
        for (int pair = 0; pair < 4; pair++) {
            if (isRest(one, other, pair / 2, pair % 2)) {
                if (passed == k) {
                    return 10 * (pair / 2) + pair % 2;
                }
                passed++;
            }
        }
        return NOT_SO;
    }

    // ---- the bank by odds

    public long quiet(int n, int what) {
        if (n < 0 || n > 6 || what < 0 || what > 1) {
            return NONE;
        }
        int above = 100 - plan.settings[SET_WATCH];
        int part = what == 0 ? above : 100;
        int divisor = commonDivisor(above, 100);
        if (divisor > 0) {
            part /= divisor;
        }
        long power = 1;
        for (int k = 0; k < n; k++) {
            power *= part;
        }
        return power;
    }

    /** Both are 100 at most, so that far fewer rounds than a hundred do. */
    private static int commonDivisor(int one, int other) {
        int larger = one;
        int smaller = other;
        for (int k = 0; k < 100 && smaller > 0; k++) {
            int left = larger % smaller;
            larger = smaller;
            smaller = left;
        }
        return larger;
    }

    public int chance(int seed, int n, int found) {
        if (seed < 0 || n < 1 || n > 99 || found < 0 || found > MOST_LETTERS) {
            return NONE;
        }
        int many = 0;
        long last = seed;
        for (int time = 0; time < 10; time++) {
            tryFromNow(BY_NUMBERS);
            trial.lastNumber = last;
            course.play(n);
            last = trial.lastNumber;
            if (trial.foundSoFar - now.foundSoFar >= found) {
                many++;
            }
        }
        return many;
    }

    public int tried(int what, int i, int n) {
        if (what < 0 || what > 4 || n < 0 || n > MOST_DAYS) {
            return NONE;
        }
        if (what == 2 ? !isPerson(i) : i != 0) {
            return NONE;
        }
        tryFromNow(what == 0 ? NEVER_LOOKS : what == 1 ? ALWAYS_LOOKS : AS_IT_GOES);
        course.absent = what == 2 ? i : NONE;
        course.rentFree = what == 3;
        course.fineFree = what == 4;
        course.play(n);
        return trial.pursesInSum();
    }

    // ---- what was seen

    public int see(int days, int hand, int trait, int much, boolean atLeast) {
        if (days < 1 || days > ASKED_DAYS || !isPerson(hand)) {
            return NONE;
        }
        if (trait < 0 || trait >= TRAITS || much < 0 || much > 99) {
            return NONE;
        }
        return sight.add(days, hand * TRAITS + trait, much, atLeast);
    }

    public int strike(int seen) {
        return sight.addStrike(seen);
    }

    public boolean known(int n) {
        return sight.knowBy(n);
    }

    public int wears() {
        sight.weigh();
        int bits = 0;
        for (int step = 0; step < WEAR_STEPS; step++) {
            if (agreesWith(step)) {
                bits |= 1 << step;
            }
        }
        return bits;
    }

    /** Whether all KNOWN ones are so by this wear; if they are, the trial has come to the last one's DAY. */
    private boolean agreesWith(int step) {
        trial.begin(plan);
        course.begin(plan, trial, AS_IT_GOES);
        course.wear = 10 * step;
        for (int day = 1; day <= sight.lastDay; day++) {
            course.playDay();
            if (!sight.agrees(day, trial.traits)) {
                return false;
            }
        }
        return true;
    }

    public int ask(int hand, int what) {
        if (!isPerson(hand) || what < 0 || what > 1) {
            return NONE;
        }
        sight.weigh();
        int left = 0;
        for (int step = 0; step < WEAR_STEPS; step++) {
            if (agreesWith(step)) {
                course.play(ASKED_DAYS - sight.lastDay);
                slants[step] = trial.traits[hand * TRAITS] / 1000;
                left |= 1 << step;
            }
        }
        int best = 1;
        for (int much = 2; much <= 99; much++) {
            if (leftAtWorst(left, much) < leftAtWorst(left, best)) {
                best = much;
            }
        }
        return what == 0 ? best : leftAtWorst(left, best);
    }

    private int leftAtWorst(int left, int much) {
        int so = 0;
        for (int step = 0; step < WEAR_STEPS; step++) {
            if ((left >> step & 1) != 0 && slants[step] >= much) {
                so++;
            }
        }
        return Math.max(so, Integer.bitCount(left) - so);
    }

    // ---- undone, images, counts

    public int undo() {
        return deeds.takeBack(now);
    }

    public int keep() {
        image.copy(now);
        hasImage = true;
        return now.day;
    }

    public int back() {
        if (!hasImage) {
            return NONE;
        }
        now.copy(image);
        deeds.clear();
        return now.day;
    }

    public int count(int what) {
        switch (what) {
            case 0:
                return plan.people;
            case 1:
                return plan.leaseCount;
            case 2:
                return plan.letterCount;
            case 3:
                return plan.knots;
            case 4:
                return now.day;
            case 5:
                return now.handsLet();
            case 6:
                return now.pursesInSum();
            case 7:
                return now.forgedSoFar;
            case 8:
                return now.clashesSoFar;
            case 9:
                return now.foundSoFar;
            case 10:
                return now.refusedSoFar;
            case 11:
                return sight.many;
            case 12:
                return sight.knownMany();
            case 13:
                return deeds.many;
            default:
                return NONE;
        }
    }

    /** What a TEXT tells; it stays as it is until another TEXT comes. */
    private static final class Plan {
        int lines;
        int people;
        int leaseCount;
        int letterCount;
        int knots;
        final int[] names = new int[MOST_PEOPLE];
        final int[] traits = new int[MOST_PEOPLE * TRAITS];
        final int[] purses = new int[MOST_PEOPLE];
        final int[][] leases = new int[MOST_LEASES][LEASE_PARTS];
        final int[][] letters = new int[MOST_LETTERS][LETTER_PARTS];
        final int[] settings = {WEAR_UNTOLD, 0, 0};
        /** A law's knots stand in a row, operands ahead of their sign: from its start up to its stop. */
        final int[] lawStarts = new int[LAWS];
        final int[] lawStops = new int[LAWS];
        final int[] knotKinds = new int[MOST_KNOTS];
        final int[] knotValues = new int[MOST_KNOTS];

        void empty() {
            lines = 0;
            people = 0;
            leaseCount = 0;
            letterCount = 0;
            knots = 0;
            settings[SET_WEAR] = WEAR_UNTOLD;
            settings[SET_WATCH] = 0;
            settings[SET_SEED] = 0;
            for (int rule = 0; rule < LAWS; rule++) {
                lawStarts[rule] = 0;
                lawStops[rule] = 0;
            }
        }

        int personNamed(int letters) {
            for (int man = 0; man < people; man++) {
                if (names[man] == letters) {
                    return man;
                }
            }
            return NONE;
        }
    }

    /** The TAPE, cut into TOKENS one at a time. */
    private static final class Tokens {
        private final byte[] bytes = new byte[TAPE_LENGTH];
        int tapeLength;
        private final int[] language = new int[LANGUAGE_WORDS];
        private int length;
        private int next;
        int kind;
        int place;
        /** A number's value, or a word's letters as named() has them. */
        int value;

        Tokens() {
            int word = 0;
            int at = 0;
            for (int i = 0; i < LANGUAGE.length() && word < LANGUAGE_WORDS; i++) {
                char sign = LANGUAGE.charAt(i);
                if (sign == ' ') {
                    word++;
                    at = 0;
                } else {
                    language[word] |= packed(sign, at);
                    at++;
                }
            }
        }

        private static int packed(int letter, int at) {
            return (letter - 'a' + 1) << 5 * (5 - at);
        }

        void put(int four) {
            for (int shift = 24; shift >= 0 && tapeLength < TAPE_LENGTH; shift -= 8) {
                bytes[tapeLength] = (byte) (four >> shift);
                tapeLength++;
            }
        }

        /** The bytes are read from where they lie; new ones come only when all are read. */
        void start(int n) {
            length = Math.min(n, tapeLength);
            tapeLength = 0;
            next = 0;
            advance();
        }

        void advance() {
            while (next < length && (bytes[next] == 10 || bytes[next] == 32)) {
                next++;
            }
            place = next;
            value = 0;
            if (next >= length) {
                kind = TEXT_END;
            } else if (isSmall(bytes[next])) {
                readWord();
            } else if (isDigit(bytes[next])) {
                readNumber();
            } else {
                readSign();
            }
        }

        private static boolean isSmall(int sign) {
            return sign >= 'a' && sign <= 'z';
        }

        private static boolean isDigit(int sign) {
            return sign >= '0' && sign <= '9';
        }

        private void readWord() {
            int many = 0;
            while (next < length && isSmall(bytes[next])) {
                if (many < 6) {
                    value |= packed(bytes[next], many);
                }
                many++;
                next++;
            }
            kind = many > 6 ? BAD : kindOfWord(value);
        }

        private int kindOfWord(int letters) {
            for (int word = 0; word < LANGUAGE_WORDS; word++) {
                if (language[word] == letters) {
                    return FIRST_WORD + word;
                }
            }
            return WORD;
        }

        /** A million is beyond every bound of the document, so that further digits don't matter. */
        private void readNumber() {
            kind = NUMBER;
            while (next < length && isDigit(bytes[next])) {
                if (value < 1000000) {
                    value = value * 10 + bytes[next] - '0';
                }
                next++;
            }
        }

        private void readSign() {
            int sign = bytes[next];
            next++;
            int behind = next < length ? bytes[next] : ' ';
            if (sign == '<' && behind == '=') {
                kind = AT_MOST;
                next++;
            } else if (sign == '<' && behind == '>') {
                kind = UNLIKE;
                next++;
            } else if (sign == '>' && behind == '=') {
                kind = AT_LEAST;
                next++;
            } else {
                kind = kindOfSign(sign);
            }
        }

        private static int kindOfSign(int sign) {
            switch (sign) {
                case ';':
                    return SEMICOLON;
                case '(':
                    return OPEN;
                case ')':
                    return CLOSE;
                case '<':
                    return LESS;
                case '=':
                    return EQUAL;
                case '>':
                    return MORE;
                case '+':
                    return PLUS;
                case '-':
                    return MINUS;
                case '*':
                    return BY;
                case '/':
                    return OVER;
                default:
                    return BAD;
            }
        }
    }

    /** Reads a TEXT into a plan, up to its first FAULT. */
    private static final class Reader {
        final Tokens tokens = new Tokens();
        private Plan plan;
        /** Bits of the settings, and behind them of the laws, that were told. */
        private int told;
        int faultKind;
        int faultPlace = NONE;
        /** Signs and open brackets of the E at hand that wait for their right side. */
        private final int[] waiting = new int[MOST_KNOTS + MOST_OPEN];
        private int waitingMany;
        private int openMany;
        /** Knots are counted as they are read, but set down behind their operands. */
        private int setDown;

        void read(int n, Plan into) {
            plan = into;
            plan.empty();
            told = 0;
            setDown = 0;
            faultKind = 0;
            faultPlace = NONE;
            tokens.start(n);
            for (int k = 0; k < TAPE_LENGTH && faultKind == 0 && tokens.kind != TEXT_END; k++) {
                switch (tokens.kind) {
                    case MAN:
                        readMan();
                        break;
                    case LEASE:
                        readLease();
                        break;
                    case LETTER:
                        readLetter();
                        break;
                    case LAW:
                        readLaw();
                        break;
                    default:
                        readSetting();
                        break;
                }
                take(SEMICOLON);
                plan.lines++;
            }
        }

        /** Only the first FAULT is told, and nothing is taken behind it. */
        private void fail(int kind) {
            if (faultKind == 0) {
                faultKind = kind;
                faultPlace = tokens.place;
            }
        }

        private void take(int kind) {
            if (faultKind == 0 && tokens.kind == kind) {
                tokens.advance();
            } else {
                fail(FAULT_TOKEN);
            }
        }

        private int takeNumber(int least, int most) {
            int number = tokens.value;
            if (tokens.kind == NUMBER && (number < least || number > most)) {
                fail(FAULT_TOO_MUCH);
            }
            take(NUMBER);
            return number;
        }

        private int takeNewName() {
            int name = tokens.value;
            if (tokens.kind == WORD && plan.personNamed(name) != NONE) {
                fail(FAULT_TOLD);
            }
            take(WORD);
            return name;
        }

        /** A PERSON told ahead, who is not the owner. */
        private int takePerson(int owner) {
            int man = plan.personNamed(tokens.value);
            if (tokens.kind == WORD && man == NONE) {
                fail(FAULT_NOBODY);
            } else if (tokens.kind == WORD && man == owner) {
                fail(FAULT_OWNER);
            }
            take(WORD);
            return man;
        }

        private void readMan() {
            if (plan.people >= MOST_PEOPLE) {
                fail(FAULT_TOO_MUCH);
                return;
            }
            int man = plan.people;
            tokens.advance();
            plan.names[man] = takeNewName();
            for (int at = man * TRAITS; at < man * TRAITS + TRAITS; at++) {
                plan.traits[at] = takeNumber(0, 99);
            }
            plan.purses[man] = takeNumber(0, 999);
            plan.people++;
        }

        private void readLease() {
            if (plan.leaseCount >= MOST_LEASES) {
                fail(FAULT_TOO_MUCH);
                return;
            }
            int[] row = plan.leases[plan.leaseCount];
            tokens.advance();
            row[LEASE_HAND] = takePerson(NOT_SO);
            row[LEASE_TENANT] = takePerson(row[LEASE_HAND]);
            row[LEASE_FROM] = takeNumber(0, LAST_TOLD_DAY);
            row[LEASE_DAYS] = takeNumber(1, 99);
            row[LEASE_PRICE] = takeNumber(0, 99);
            plan.leaseCount++;
        }

        private void readLetter() {
            if (plan.letterCount >= MOST_LETTERS) {
                fail(FAULT_TOO_MUCH);
                return;
            }
            int[] row = plan.letters[plan.letterCount];
            tokens.advance();
            row[LETTER_WRITER] = takePerson(NOT_SO);
            row[LETTER_HAND] = takePerson(NOT_SO);
            row[LETTER_DAY] = takeNumber(0, LAST_TOLD_DAY);
            plan.letterCount++;
        }

        private void readSetting() {
            int which = tokens.kind - WEAR;
            if (which < 0 || which >= SETTINGS) {
                fail(FAULT_TOKEN);
                return;
            }
            tellOnce(which);
            plan.settings[which] = takeNumber(0, which == SET_SEED ? 99999 : 100);
        }

        private void tellOnce(int bit) {
            if ((told >> bit & 1) != 0) {
                fail(FAULT_TOLD);
                return;
            }
            told |= 1 << bit;
            tokens.advance();
        }

        /** Reads the E by the ranks of its signs, so that brackets and 'not' need no recursion. */
        private void readLaw() {
            tokens.advance();
            int rule = tokens.kind - RENT;
            if (rule < 0 || rule >= LAWS) {
                fail(FAULT_TOKEN);
                return;
            }
            tellOnce(SETTINGS + rule);
            plan.lawStarts[rule] = setDown;
            waitingMany = 0;
            openMany = 0;
            boolean operandNext = true;
            for (int k = 0; k < TAPE_LENGTH && faultKind == 0; k++) {
                if (!operandNext && openMany == 0 && tokens.kind == SEMICOLON) {
                    break;
                }
                operandNext = operandNext ? readOperand() : readJoint();
            }
            settle(1);
            plan.lawStops[rule] = setDown;
        }

        /** Reads what an operand begins with; whether one must come yet. */
        private boolean readOperand() {
            int kind = tokens.kind;
            boolean isNumber = kind == NUMBER;
            boolean isName = kind >= SLANT && kind <= DAY;
            boolean isDenial = kind == NOT && mayDeny();
            if (isNumber && tokens.value > 9999 || kind == OPEN && openMany >= MOST_OPEN) {
                fail(FAULT_TOO_MUCH);
            }
            if (isNumber || isName || isDenial) {
                countKnot();
            }
            if (isNumber || isName) {
                setKnotDown(kind, tokens.value);
            } else if (isDenial) {
                hold(NOT);
            } else if (kind == OPEN) {
                openMany++;
                hold(OPEN);
            } else {
                fail(FAULT_TOKEN);
            }
            take(kind);
            return !isNumber && !isName;
        }

        /** A 'not' begins a B, so that it stands behind nothing that ranks higher than itself. */
        private boolean mayDeny() {
            return waitingMany == 0 || rankOf(waiting[waitingMany - 1]) <= rankOf(NOT);
        }

        /** Reads what stands behind an operand; whether another one must come then. */
        private boolean readJoint() {
            int kind = tokens.kind;
            int rank = rankOf(kind);
            if (kind == CLOSE && openMany > 0) {
                settle(1);
                waitingMany--;
                openMany--;
            } else if (rank == 0 || kind == NOT) {
                fail(FAULT_TOKEN);
            } else {
                holdJoint(kind, rank);
            }
            take(kind);
            return kind != CLOSE;
        }

        /** Signs of one rank are settled from the left on; a comparison has no other one beside it. */
        private void holdJoint(int kind, int rank) {
            settle(rank + 1);
            boolean another = waitingMany > 0 && rankOf(waiting[waitingMany - 1]) == rank;
            if (another && rank == rankOf(EQUAL)) {
                fail(FAULT_TOKEN);
            }
            countKnot();
            settle(rank);
            hold(kind);
        }

        private void countKnot() {
            if (plan.knots >= MOST_KNOTS) {
                fail(FAULT_TOO_MUCH);
            } else {
                plan.knots++;
            }
        }

        private void hold(int kind) {
            if (waitingMany < waiting.length) {
                waiting[waitingMany] = kind;
                waitingMany++;
            }
        }

        private void setKnotDown(int kind, int value) {
            if (setDown < MOST_KNOTS) {
                plan.knotKinds[setDown] = kind;
                plan.knotValues[setDown] = value;
                setDown++;
            }
        }

        /** Sets down the signs that wait last and rank so high at least; a bracket ranks 0. */
        private void settle(int rank) {
            while (waitingMany > 0 && rankOf(waiting[waitingMany - 1]) >= rank) {
                waitingMany--;
                setKnotDown(waiting[waitingMany], 0);
            }
        }

        private static int rankOf(int kind) {
            switch (kind) {
                case OR:
                    return 1;
                case AND:
                    return 2;
                case NOT:
                    return 3;
                case LESS:
                case AT_MOST:
                case EQUAL:
                case UNLIKE:
                case AT_LEAST:
                case MORE:
                    return 4;
                case PLUS:
                case MINUS:
                    return 5;
                case BY:
                case OVER:
                    return 6;
                default:
                    return 0;
            }
        }
    }

    /** Works out the E of a law. */
    private static final class Sums {
        private static final long MOST = 1000000000000L;
        /** What the NAMES are, slant first. */
        private final long[] names = new long[LAW_NAMES];
        private final long[] held = new long[MOST_KNOTS];

        void tellNames(World world, int hand, int man, int price) {
            for (int trait = 0; trait < TRAITS; trait++) {
                names[trait] = world.traits[hand * TRAITS + trait] / 1000;
            }
            names[3] = world.purses[man];
            names[4] = price;
            names[5] = world.timesLet[hand];
            names[6] = world.day;
        }

        /** An E that has no knots is a law that isn't told. */
        long work(Plan plan, int rule) {
            int many = 0;
            for (int k = plan.lawStarts[rule]; k < plan.lawStops[rule]; k++) {
                int kind = plan.knotKinds[k];
                if (kind == NUMBER || kind >= SLANT) {
                    held[many] = kind == NUMBER ? plan.knotValues[k] : names[kind - SLANT];
                    many++;
                } else if (kind == NOT && many > 0) {
                    held[many - 1] = bit(held[many - 1] == 0);
                } else if (many > 1) {
                    many--;
                    held[many - 1] = join(kind, held[many - 1], held[many]);
                    if (held[many - 1] == ERROR) {
                        return ERROR;
                    }
                }
            }
            return many > 0 ? held[0] : ERROR;
        }

        private static long bit(boolean so) {
            return so ? 1 : 0;
        }

        private static long join(int kind, long a, long b) {
            switch (kind) {
                case OR:
                    return bit(a != 0 || b != 0);
                case AND:
                    return bit(a != 0 && b != 0);
                case LESS:
                    return bit(a < b);
                case AT_MOST:
                    return bit(a <= b);
                case EQUAL:
                    return bit(a == b);
                case UNLIKE:
                    return bit(a != b);
                case AT_LEAST:
                    return bit(a >= b);
                case MORE:
                    return bit(a > b);
                case PLUS:
                    return within(a + b);
                case MINUS:
                    return within(a - b);
                case BY:
                    return product(a, b);
                default:
                    return b == 0 ? ERROR : a / b;
            }
        }

        private static long within(long value) {
            return value > MOST || value < -MOST ? ERROR : value;
        }

        /** The product itself might not fit a long. */
        private static long product(long a, long b) {
            long one = a < 0 ? -a : a;
            long other = b < 0 ? -b : b;
            return one != 0 && other > MOST / one ? ERROR : a * b;
        }
    }

    /** What changes by days and by calls. */
    private static final class World {
        int day;
        long lastNumber;
        final int[] purses = new int[MOST_PEOPLE];
        final int[] traits = new int[MOST_PEOPLE * TRAITS];
        final int[] tenants = {NOT_SO, NOT_SO, NOT_SO, NOT_SO, NOT_SO, NOT_SO};
        final int[] daysLeft = new int[MOST_PEOPLE];
        final int[] timesLet = new int[MOST_PEOPLE];
        final int[] written = new int[MOST_LETTERS];
        final int[] clashed = new int[MOST_LETTERS];
        final int[] caught = new int[MOST_LETTERS];
        final int[] letterTraits = new int[MOST_LETTERS * TRAITS];
        int forgedSoFar;
        int clashesSoFar;
        int foundSoFar;
        int refusedSoFar;

        /** PURSES beyond the PEOPLE are empty, so that sums need not know how many there are. */
        void begin(Plan plan) {
            day = 0;
            lastNumber = plan.settings[SET_SEED];
            for (int man = 0; man < MOST_PEOPLE; man++) {
                purses[man] = man < plan.people ? plan.purses[man] : 0;
                tenants[man] = NOT_SO;
                daysLeft[man] = 0;
                timesLet[man] = 0;
            }
            for (int at = 0; at < plan.people * TRAITS; at++) {
                traits[at] = 1000 * plan.traits[at];
            }
            for (int letter = 0; letter < MOST_LETTERS; letter++) {
                written[letter] = 0;
                clashed[letter] = 0;
                caught[letter] = 0;
            }
            forgedSoFar = 0;
            clashesSoFar = 0;
            foundSoFar = 0;
            refusedSoFar = 0;
        }

        void copy(World other) {
            day = other.day;
            lastNumber = other.lastNumber;
            System.arraycopy(other.purses, 0, purses, 0, purses.length);
            System.arraycopy(other.traits, 0, traits, 0, traits.length);
            System.arraycopy(other.tenants, 0, tenants, 0, tenants.length);
            System.arraycopy(other.daysLeft, 0, daysLeft, 0, daysLeft.length);
            System.arraycopy(other.timesLet, 0, timesLet, 0, timesLet.length);
            System.arraycopy(other.written, 0, written, 0, written.length);
            System.arraycopy(other.clashed, 0, clashed, 0, clashed.length);
            System.arraycopy(other.caught, 0, caught, 0, caught.length);
            System.arraycopy(other.letterTraits, 0, letterTraits, 0, letterTraits.length);
            forgedSoFar = other.forgedSoFar;
            clashesSoFar = other.clashesSoFar;
            foundSoFar = other.foundSoFar;
            refusedSoFar = other.refusedSoFar;
        }

        boolean isLet(int hand) {
            return tenants[hand] >= 0;
        }

        int holderOf(int hand) {
            return isLet(hand) ? tenants[hand] : hand;
        }

        boolean mayLet(int hand, int man, int rent) {
            return !isLet(hand) && purses[man] >= rent;
        }

        void handOver(int hand, int man, int days, int rent) {
            tenants[hand] = man;
            daysLeft[hand] = days;
            purses[man] -= rent;
            purses[hand] = Math.min(MOST_PURSE, purses[hand] + rent);
        }

        int drawNumber() {
            lastNumber = lastNumber * 1103515245L + 12345L & 0x7FFFFFFFL;
            return (int) (lastNumber / 65536);
        }

        int pursesInSum() {
            int sum = 0;
            for (int purse : purses) {
                sum += purse;
            }
            return sum;
        }

        int handsLet() {
            int many = 0;
            for (int hand = 0; hand < MOST_PEOPLE; hand++) {
                if (isLet(hand)) {
                    many++;
                }
            }
            return many;
        }
    }

    /** Plays the DAYS of a plan in a world, as they are or otherwise. */
    private static final class Course {
        final Sums sums = new Sums();
        private Plan plan;
        private World world;
        private int bank;
        int wear;
        int absent;
        boolean rentFree;
        boolean fineFree;

        void begin(Plan ofPlan, World inWorld, int byBank) {
            plan = ofPlan;
            world = inWorld;
            bank = byBank;
            wear = plan.settings[SET_WEAR];
            absent = NONE;
            rentFree = false;
            fineFree = false;
        }

        void play(int days) {
            for (int k = 0; k < days; k++) {
                playDay();
            }
        }

        void playDay() {
            if (world.day <= LAST_TOLD_DAY) {
                playLeases();
                int forgedBefore = world.forgedSoFar;
                playLetters();
                if (world.forgedSoFar > forgedBefore && bankLooks()) {
                    findForged();
                }
            }
            for (int hand = 0; hand < plan.people; hand++) {
                if (world.isLet(hand)) {
                    world.daysLeft[hand]--;
                    if (world.daysLeft[hand] <= 0) {
                        comeBack(hand);
                    }
                }
            }
            world.day++;
        }

        private void playLeases() {
            for (int k = 0; k < plan.leaseCount; k++) {
                int[] row = plan.leases[k];
                int hand = row[LEASE_HAND];
                int tenant = row[LEASE_TENANT];
                if (row[LEASE_FROM] != world.day || tenant == absent) {
                    continue;
                }
                int rent = bounded(LAW_RENT, hand, tenant, row[LEASE_PRICE]);
                if (world.mayLet(hand, tenant, rent)) {
                    world.handOver(hand, tenant, row[LEASE_DAYS], rent);
                } else {
                    world.refusedSoFar++;
                }
            }
        }

        private void playLetters() {
            for (int letter = 0; letter < plan.letterCount; letter++) {
                int[] row = plan.letters[letter];
                if (row[LETTER_DAY] == world.day && row[LETTER_WRITER] != absent) {
                    write(letter, row[LETTER_WRITER], row[LETTER_HAND]);
                }
            }
        }

        private void write(int letter, int writer, int hand) {
            boolean good = world.holderOf(hand) == writer;
            for (int trait = 0; trait < TRAITS; trait++) {
                int own = world.traits[hand * TRAITS + trait];
                int wanted = good ? own : (own + 1000 * plan.traits[writer * TRAITS + trait]) / 2;
                world.letterTraits[letter * TRAITS + trait] = wanted;
            }
            if (clashes(letter)) {
                world.clashed[letter] = 1;
                world.clashesSoFar++;
            }
            world.written[letter] = good ? GOOD : FORGED;
            if (!good) {
                world.forgedSoFar++;
            }
        }

        /** One told for this DAY isn't written, if its writer is absent. */
        private boolean clashes(int letter) {
            int[] row = plan.letters[letter];
            for (int other = 0; other < letter; other++) {
                int[] told = plan.letters[other];
                if (told[LETTER_HAND] == row[LETTER_HAND] && told[LETTER_DAY] == row[LETTER_DAY]
                        && world.written[other] != 0) {
                    return true;
                }
            }
            return false;
        }

        private boolean bankLooks() {
            int watch = plan.settings[SET_WATCH];
            switch (bank) {
                case NEVER_LOOKS:
                    return false;
                case ALWAYS_LOOKS:
                    return true;
                case AS_IT_GOES:
                    return watch >= 50;
                default:
                    return watch == 100 || watch > 0 && world.drawNumber() % 100 < watch;
            }
        }

        private void findForged() {
            for (int letter = 0; letter < plan.letterCount; letter++) {
                int[] row = plan.letters[letter];
                if (row[LETTER_DAY] == world.day && world.written[letter] == FORGED) {
                    world.caught[letter] = 1;
                    world.foundSoFar++;
                    int writer = row[LETTER_WRITER];
                    int fine = bounded(LAW_FINE, row[LETTER_HAND], writer, 0);
                    world.purses[writer] = Math.max(0, world.purses[writer] - fine);
                }
            }
        }

        void comeBack(int hand) {
            int tenant = world.tenants[hand];
            int turn = bounded(LAW_TURN, hand, tenant, 0);
            for (int trait = 0; trait < TRAITS; trait++) {
                int at = hand * TRAITS + trait;
                int more = 1000 * plan.traits[tenant * TRAITS + trait] - world.traits[at];
                world.traits[at] += more * turn / 1000;
            }
            world.tenants[hand] = NOT_SO;
            world.daysLeft[hand] = 0;
            world.timesLet[hand]++;
        }

        /** RENT, turn or fine: the law's E within its bounds, or what holds without it. */
        int bounded(int rule, int hand, int man, int price) {
            if (rule == LAW_RENT && rentFree || rule == LAW_FINE && fineFree) {
                return 0;
            }
            sums.tellNames(world, hand, man, price);
            long value = sums.work(plan, rule);
            if (value == ERROR) {
                return rule == LAW_RENT ? price : rule == LAW_TURN ? 10 * wear : 10;
            }
            return (int) Math.max(0L, Math.min(rule == LAW_TURN ? 1000L : 999L, value));
        }
    }

    /** What was SEEN, and what strikes it. */
    private static final class Sight {
        int many;
        /** The DAY of the last one that counts, when they were weighed; 0 without. */
        int lastDay;
        private int limit = NONE;
        private final int[] days = new int[MOST_SEEN];
        private final int[] traitPlaces = new int[MOST_SEEN];
        private final int[] muches = new int[MOST_SEEN];
        private final boolean[] atLeasts = new boolean[MOST_SEEN];
        /** Which one it strikes; NONE, if it was seen itself. */
        private final int[] strikes = new int[MOST_SEEN];
        private final boolean[] counts = new boolean[MOST_SEEN];

        void clear() {
            many = 0;
            limit = NONE;
        }

        int add(int behind, int traitPlace, int much, boolean atLeast) {
            if (many >= MOST_SEEN) {
                return NONE;
            }
            days[many] = behind;
            traitPlaces[many] = traitPlace;
            muches[many] = much;
            atLeasts[many] = atLeast;
            strikes[many] = NONE;
            many++;
            return many - 1;
        }

        int addStrike(int seen) {
            if (seen < 0 || seen >= many || many >= MOST_SEEN) {
                return NONE;
            }
            strikes[many] = seen;
            many++;
            return many - 1;
        }

        boolean knowBy(int n) {
            if (n < NONE || n > many) {
                return false;
            }
            limit = n;
            return true;
        }

        int knownMany() {
            return limit == NONE ? many : limit;
        }

        /** From the last one on, so that whether one strikes is settled ahead of what it strikes. */
        void weigh() {
            int known = knownMany();
            for (int k = 0; k < MOST_SEEN; k++) {
                counts[k] = k < known;
            }
            lastDay = 0;
            for (int k = known - 1; k >= 0; k--) {
                if (counts[k] && strikes[k] >= 0) {
                    counts[strikes[k]] = false;
                    counts[k] = false;
                } else if (counts[k]) {
                    lastDay = Math.max(lastDay, days[k]);
                }
            }
        }

        boolean agrees(int day, int[] traits) {
            for (int k = 0; k < many; k++) {
                if (counts[k] && days[k] == day && traits[traitPlaces[k]] / 1000 >= muches[k] != atLeasts[k]) {
                    return false;
                }
            }
            return true;
        }
    }

    /** What was done by call since the latest DAY: how the HAND and all PURSES were ahead of it. */
    private static final class Deeds {
        private static final int PARTS = 7 + MOST_PEOPLE;
        private final int[] rows = new int[MOST_UNDONE * PARTS];
        private int next;
        int many;

        void clear() {
            many = 0;
        }

        void note(World world, int hand) {
            int at = next * PARTS;
            rows[at] = hand;
            rows[at + 1] = world.tenants[hand];
            rows[at + 2] = world.daysLeft[hand];
            rows[at + 3] = world.timesLet[hand];
            System.arraycopy(world.traits, hand * TRAITS, rows, at + 4, TRAITS);
            System.arraycopy(world.purses, 0, rows, at + 7, MOST_PEOPLE);
            next = (next + 1) % MOST_UNDONE;
            many = Math.min(MOST_UNDONE, many + 1);
        }

        int takeBack(World world) {
            if (many == 0) {
                return NONE;
            }
            next = (next + MOST_UNDONE - 1) % MOST_UNDONE;
            many--;
            int at = next * PARTS;
            int hand = rows[at];
            world.tenants[hand] = rows[at + 1];
            world.daysLeft[hand] = rows[at + 2];
            world.timesLet[hand] = rows[at + 3];
            System.arraycopy(rows, at + 4, world.traits, hand * TRAITS, TRAITS);
            System.arraycopy(rows, at + 7, world.purses, 0, MOST_PEOPLE);
            return many;
        }
    }

    /** Gives HANDS to PEOPLE: as many as may be, then at the least cost, then the first ones. */
    private static final class Matching {
        /** More than all costs of six in sum, so that a pair more is worth any cost. */
        private static final int PAIR = 10000000;
        private static final int SETS = 1 << MOST_PEOPLE;
        private final int[] costOf = new int[MOST_PEOPLE * MOST_PEOPLE];
        /** By the first PERSON that is left and the HANDS that are taken: what the rest are worth. */
        private final int[][] worth = new int[MOST_PEOPLE + 1][SETS];
        final int[] chosen = new int[MOST_PEOPLE];
        int pairs;
        int costs;

        /** A cost of NONE: these two can't be matched. */
        void tell(int man, int hand, int cost) {
            costOf[man * MOST_PEOPLE + hand] = cost;
        }

        void solve(int people) {
            for (int taken = 0; taken < SETS; taken++) {
                worth[people][taken] = 0;
            }
            for (int man = people - 1; man >= 0; man--) {
                for (int taken = 0; taken < SETS; taken++) {
                    worth[man][taken] = bestWorth(man, taken, people);
                }
            }
            choose(people);
        }

        private int bestWorth(int man, int taken, int people) {
            int best = worth[man + 1][taken];
            for (int hand = 0; hand < people; hand++) {
                if (fits(man, hand, taken)) {
                    best = Math.max(best, worthWith(man, hand, taken));
                }
            }
            return best;
        }

        private boolean fits(int man, int hand, int taken) {
            return (taken >> hand & 1) == 0 && costOf[man * MOST_PEOPLE + hand] != NONE;
        }

        private int worthWith(int man, int hand, int taken) {
            return PAIR - costOf[man * MOST_PEOPLE + hand] + worth[man + 1][taken | 1 << hand];
        }

        private void choose(int people) {
            pairs = 0;
            costs = 0;
            int taken = 0;
            for (int man = 0; man < people; man++) {
                chosen[man] = NOT_SO;
                for (int hand = 0; hand < people && chosen[man] == NOT_SO; hand++) {
                    if (fits(man, hand, taken) && worthWith(man, hand, taken) == worth[man][taken]) {
                        chosen[man] = hand;
                    }
                }
                if (chosen[man] != NOT_SO) {
                    pairs++;
                    costs += costOf[man * MOST_PEOPLE + chosen[man]];
                    taken |= 1 << chosen[man];
                }
            }
        }
    }
}
