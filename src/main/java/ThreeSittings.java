import java.util.NoSuchElementException;

/** Three sittings of a dining car: tickets, days, and what could be done otherwise (see README.md). */
public final class ThreeSittings {
    public static final int NONE = -1;

    // What several calls answer where there are such arguments, but nothing to tell.
    private static final int NO_ANSWER = -2;

    private static final int MAX_PARTIES = 8;
    private static final int MAX_SITTINGS = 3;
    private static final int MAX_KNOTS = 64;
    private static final int MAX_OPEN = 8;
    private static final int MAX_NOTES = 24;
    private static final int MAX_UNDO = 20;
    private static final int MAX_PERSONS = 72;
    private static final int TAPE_BYTES = 700;
    private static final int FEED_BYTES = 20;
    private static final int LAST_DATE = 9999;
    private static final int MOST_LATE = 999;
    private static final int MOST_HUNGRY = 9999;
    private static final int MOST_DAYS = 99;
    private static final int MOST_TRIED_DAYS = 20;
    private static final int DRAWS = 10;
    private static final int MOST_PRICE = 99;
    private static final int MOST_LEVEL_PRICE = 9;
    private static final int STRONGEST_SIGN = 3;
    private static final int MOST_HANDS = 9;
    private static final int LINGERING = 20;
    private static final int HUNDRED = 100;
    private static final int STAYS_AWAY_FROM = 50;

    // The numbers of a party, as they stand in its line.
    private static final int SIZE = 0;
    private static final int FIRST_WISH = 1;
    private static final int OFF = 4;
    private static final int COFFEE = 5;
    private static final int ABSENT = 6;
    private static final int TRAITS = 7;
    private static final int[] TRAIT_LEAST = {1, 0, 0, 0, 0, 0, 0};
    private static final int[] TRAIT_MOST = {9, 9, 9, 9, 999, 99, 100};

    // The settings, as their words stand in WORDS.
    private static final int SEATS = 0;
    private static final int MEAL = 1;
    private static final int LAY = 2;
    private static final int HANDS = 3;
    private static final int OVER = 4;
    private static final int SEED = 5;
    private static final int SETTINGS = 6;
    private static final int[] SETTING_LEAST = {1, 1, 0, 1, 0, 0};
    private static final int[] SETTING_MOST = {99, 99, 99, 9, 99, 99999};
    private static final int[] SETTING_UNTOLD = {12, 30, 20, 2, 0, 0};

    // The rules of the laws, as their words stand in WORDS.
    private static final int LIKE = 0;
    private static final int STAY = 1;
    private static final int MISS = 2;
    private static final int RULES = 3;
    private static final int[] RULE_MOST = {99, 99, 100};

    // The names of an E, as their words stand in WORDS.
    private static final int NAME_SIZE = 0;
    private static final int NAME_WISH = 1;
    private static final int NAME_LATE = 2;
    private static final int NAME_PRICE = 3;
    private static final int NAME_COFFEE = 4;
    private static final int NAME_ABSENT = 5;
    private static final int NAME_DATE = 6;
    private static final int NAMES = 7;

    private static final int MOST_IN_LAW = 9999;
    private static final long VALUE_LIMIT = 1000000000000L;
    private static final long ERROR = Long.MIN_VALUE;

    // Kinds of tokens; those of an E are kept in the laws, too.
    private static final int END = 0;
    private static final int BAD = 1;
    private static final int NUMBER = 2;
    private static final int OWN_WORD = 3;
    private static final int SEMICOLON = 4;
    private static final int OPEN = 5;
    private static final int CLOSE = 6;
    private static final int PLUS = 7;
    private static final int MINUS = 8;
    private static final int TIMES = 9;
    private static final int BY = 10;
    private static final int LESS = 11;
    private static final int AT_MOST = 12;
    private static final int EQUAL = 13;
    private static final int UNEQUAL = 14;
    private static final int AT_LEAST = 15;
    private static final int MORE = 16;
    private static final int FIRST_WORD = 32;
    private static final String WORDS =
            "seats meal lay hands over seed party sitting law like stay miss or and not size wish late price coffee absent date ";
    private static final int WORD_PARTY = FIRST_WORD + SETTINGS;
    private static final int WORD_SITTING = WORD_PARTY + 1;
    private static final int WORD_LAW = WORD_SITTING + 1;
    private static final int FIRST_RULE = WORD_LAW + 1;
    private static final int WORD_OR = FIRST_RULE + RULES;
    private static final int WORD_AND = WORD_OR + 1;
    private static final int WORD_NOT = WORD_AND + 1;
    private static final int FIRST_NAME = WORD_NOT + 1;

    private static final int OWN_LETTERS = 6;
    private static final int LETTER_BITS = 5;
    // Above every number that may be told, so that long digits can't wrap round.
    private static final int TOO_BIG = 1000000;

    // How tightly the signs of an E bind.
    private static final int RANK_OR = 1;
    private static final int RANK_AND = 2;
    private static final int RANK_COMPARE = 3;
    private static final int RANK_SUM = 4;
    private static final int RANK_PRODUCT = 5;
    private static final int RANK_PART = 6;

    private static final int FAULT_TOKEN = 1;
    private static final int FAULT_TOO_MUCH = 2;
    private static final int FAULT_TOLD = 3;

    private static final int UNDO_TICKET = 0;
    private static final int UNDO_SIGN = 1;
    private static final int UNDO_PRICE = 2;

    private static final int NOTE_LESS = 0;
    private static final int NOTE_AT_LEAST = 1;
    private static final int NOTE_STRIKES = 2;

    private final byte[] tape = new byte[TAPE_BYTES];
    private int tapeLength = 0;
    private final Reader reader = new Reader();
    private Plan plan = new Plan();
    private final State now = new State();
    private final State image = new State();
    private boolean hasImage = false;
    // A copy of the state in which days go by that are only thought of.
    private final State trial = new State();
    private final Car car = new Car();
    private final Ways asItGoes = new Ways();
    private final Ways byChance = new Ways();
    private final Ways otherwise = new Ways();
    private final History history = new History();
    private final Notes notes = new Notes();
    private final Giving giving = new Giving();
    private final Levelling levelling = new Levelling();
    // In how many parts of the whole so many persons come.
    private final long[] parts = new long[MAX_PERSONS + 1];

    public ThreeSittings() {
        byChance.drawn = true;
        now.begin(plan);
    }

    public int feed(int a, int b, int c, int d, int e) {
        if (tapeLength + FEED_BYTES > TAPE_BYTES) {
            return NONE;
        }
        append(a);
        append(b);
        append(c);
        append(d);
        append(e);
        return tapeLength;
    }

    private void append(int four) {
        for (int shift = 24; shift >= 0; shift -= 8) {
            if (tapeLength < TAPE_BYTES) {
                tape[tapeLength] = (byte) (four >> shift);
                tapeLength++;
            }
        }
    }

    public int text(int n) {
        if (n < 0 || n > tapeLength) {
            return NO_ANSWER;
        }
        tapeLength = 0;
        if (!reader.read(tape, n)) {
            return NONE;
        }
        Plan former = plan;
        plan = reader.plan;
        reader.plan = former;
        now.begin(plan);
        hasImage = false;
        history.count = 0;
        notes.clear();
        giving.known = false;
        levelling.known = false;
        return reader.lines;
    }

    public int fault(int what) {
        if (what == 0) {
            return reader.fault;
        }
        return what == 1 ? reader.faultPlace : NONE;
    }

    public int named(int letters) {
        return plan.numberOf(letters);
    }

    public int party(int party, int what) throws IndexOutOfBoundsException, NoSuchElementException {
        if (!plan.hasParty(party)) {
            throw new IndexOutOfBoundsException("no such party");
        }
        switch (what) {
            case 0:
                return plan.trait(party, SIZE);
            case 1:
                return plan.trait(party, OFF);
            case 2:
                return plan.trait(party, COFFEE);
            case 3:
                return plan.trait(party, ABSENT);
            case 4:
                return now.ticket[party];
            case 5:
                return now.meals[party];
            case 6:
                return now.cross[party];
            case 7:
                return now.away[party];
            case 8:
                return now.hungry[party];
            default:
                throw new NoSuchElementException("no such what");
        }
    }

    public int wish(int party, int sitting) {
        if (!plan.hasParty(party) || sitting < 0 || sitting >= MAX_SITTINGS) {
            return NONE;
        }
        return plan.trait(party, FIRST_WISH + sitting);
    }

    public int sitting(int sitting, int what) {
        if (!plan.hasSitting(sitting)) {
            return NONE;
        }
        switch (what) {
            case 0:
                return plan.minute[sitting];
            case 1:
                return now.price[sitting];
            case 2:
                return now.sign[sitting];
            case 3:
                return now.personsFor(sitting, plan);
            default:
                return now.seen ? ofLatestDay(sitting, what) : NONE;
        }
    }

    private int ofLatestDay(int sitting, int what) {
        if (!plan.hasSitting(sitting)) {
            return NONE;
        }
        switch (what) {
            case 4:
                return now.began[sitting];
            case 5:
                return now.lateBy[sitting];
            case 6:
                return now.sat[sitting];
            case 7:
                return now.stood[sitting];
            case 8:
                return now.ended[sitting];
            default:
                return NONE;
        }
    }

    public long law(int what, int party, int sitting, int late) {
        if (what < 0 || what >= RULES || !areSuch(party, sitting) || late < 0 || late > MOST_LATE) {
            return ERROR;
        }
        Car.look(plan, now, asItGoes, party, sitting, late);
        return plan.laws.work(what);
    }

    private boolean areSuch(int party, int sitting) {
        return plan.hasParty(party) && plan.hasSitting(sitting);
    }

    public boolean give(int party, int sitting) {
        if (!plan.hasParty(party) || sitting != NONE && !plan.hasSitting(sitting)) {
            return false;
        }
        int former = now.ticket[party];
        if (former == sitting) {
            return false;
        }
        if (sitting != NONE && now.personsFor(sitting, plan) + plan.trait(party, SIZE) > plan.mostTickets()) {
            return false;
        }
        history.add(UNDO_TICKET, party, former);
        now.ticket[party] = sitting;
        return true;
    }

    public boolean sign(int sitting, int sign) {
        if (!plan.hasSitting(sitting) || sign < 0 || sign > STRONGEST_SIGN || now.sign[sitting] == sign) {
            return false;
        }
        history.add(UNDO_SIGN, sitting, now.sign[sitting]);
        now.sign[sitting] = sign;
        return true;
    }

    public boolean price(int sitting, int price) {
        if (!plan.hasSitting(sitting) || price < 0 || price > MOST_PRICE || now.price[sitting] == price) {
            return false;
        }
        history.add(UNDO_PRICE, sitting, now.price[sitting]);
        now.price[sitting] = price;
        return true;
    }

    public int days(int n) {
        if (n < 0 || n > MOST_DAYS || now.date + n > LAST_DATE) {
            return NONE;
        }
        for (int day = 0; day < n; day++) {
            car.goThrough(plan, now, byChance);
            history.count = 0;
        }
        return now.date;
    }

    public int best(int party) {
        if (!plan.hasParty(party)) {
            return NONE;
        }
        findBest();
        int ticket = giving.best[party];
        return ticket == NONE ? NO_ANSWER : ticket;
    }

    public int bestSum() {
        findBest();
        return giving.bestSum;
    }

    private void findBest() {
        for (int p = 0; p < plan.parties; p++) {
            for (int k = 0; k < plan.sittings; k++) {
                boolean inTime = plan.minute[k] + plan.setting[MEAL] <= plan.trait(p, OFF);
                int worth = inTime ? likeNow(p, k) * plan.trait(p, SIZE) : NONE;
                giving.tell(p, k, worth);
            }
        }
        giving.find(plan);
    }

    private int likeNow(int party, int sitting) {
        return Car.manner(LIKE, plan, now, asItGoes, party, sitting, 0);
    }

    public int choice(int party) {
        if (!plan.hasParty(party)) {
            return NONE;
        }
        int chosen = plan.chosen(party, now.price);
        return chosen == NONE ? NO_ANSWER : chosen;
    }

    public int level(int sitting) {
        return plan.hasSitting(sitting) ? levelling.priceOf(sitting, plan) : NONE;
    }

    public long crowd(int sitting, int what) {
        if (!plan.hasSitting(sitting) || what < 0 || what > 1) {
            return NONE;
        }
        for (int n = 0; n <= MAX_PERSONS; n++) {
            parts[n] = n == 0 ? 1 : 0;
        }
        long whole = 1;
        for (int p = 0; p < plan.parties; p++) {
            if (now.ticket[p] == sitting) {
                mayCome(plan.trait(p, SIZE), Car.manner(MISS, plan, now, asItGoes, p, sitting, 0));
                whole *= HUNDRED;
            }
        }
        long above = 0;
        for (int n = Math.max(plan.setting[SEATS] + 1, 0); n <= MAX_PERSONS; n++) {
            above += parts[n];
        }
        long common = commonDivisor(whole, above);
        long asked = what == 0 ? above : whole;
        return common > 0 ? asked / common : asked;
    }

    private void mayCome(int size, int miss) {
        // From above, so that each row is still without this party when it is used.
        for (int n = MAX_PERSONS; n >= 0; n--) {
            long more = size >= 0 && n >= size ? parts[n - size] * (HUNDRED - miss) : 0;
            parts[n] = parts[n] * miss + more;
        }
    }

    private static long commonDivisor(long one, long other) {
        long a = one;
        long b = other;
        // Longs come to their end in fewer than 100 steps.
        for (int step = 0; step < 100 && b != 0; step++) {
            long rest = a % b;
            a = b;
            b = rest;
        }
        return a;
    }

    public int late(int sitting) {
        if (!plan.hasSitting(sitting)) {
            return NONE;
        }
        tryToday(asItGoes);
        return trial.lateBy[sitting];
    }

    private void tryToday(Ways ways) {
        trial.copy(now);
        car.goThrough(plan, trial, ways);
    }

    public int catchUp(int sitting) {
        if (sitting < 1 || !plan.hasSitting(sitting)) {
            return NONE;
        }
        for (int sign = 0; sign <= STRONGEST_SIGN; sign++) {
            trial.copy(now);
            trial.sign[sitting - 1] = sign;
            car.goThrough(plan, trial, asItGoes);
            if (trial.lateBy[sitting] == 0) {
                return sign;
            }
        }
        return NO_ANSWER;
    }

    public int hands() {
        for (int hands = 1; hands <= MOST_HANDS; hands++) {
            otherwise.reset();
            otherwise.hands = hands;
            tryToday(otherwise);
            if (!trial.isAnyLate(plan.sittings)) {
                return hands;
            }
        }
        return NO_ANSWER;
    }

    public int empties(int sitting) {
        if (!plan.hasSitting(sitting)) {
            return NONE;
        }
        tryToday(asItGoes);
        return plan.setting[SEATS] - trial.sat[sitting];
    }

    public int likes(int party, int sitting) {
        return areSuch(party, sitting) ? likeNow(party, sitting) : NONE;
    }

    public int stays(int party, int sitting) {
        return areSuch(party, sitting) ? Car.manner(STAY, plan, now, asItGoes, party, sitting, 0) : NONE;
    }

    public int misses(int party, int sitting) {
        return areSuch(party, sitting) ? Car.manner(MISS, plan, now, asItGoes, party, sitting, 0) : NONE;
    }

    public int mostCross(int what) {
        if (what < 0 || what > 1 || plan.parties == 0) {
            return NONE;
        }
        int most = 0;
        for (int p = 1; p < plan.parties; p++) {
            if (now.cross[p] > now.cross[most]) {
                most = p;
            }
        }
        return what == 0 ? most : now.cross[most];
    }

    public int without() {
        return now.personsFor(NONE, plan);
    }

    public int swap(int what) {
        if (what < 0 || what > 1) {
            return NONE;
        }
        for (int one = 0; one < plan.parties; one++) {
            for (int other = one + 1; other < plan.parties; other++) {
                if (wouldSwap(one, other)) {
                    return what == 0 ? one : other;
                }
            }
        }
        return NO_ANSWER;
    }

    private boolean wouldSwap(int one, int other) {
        if (!plan.hasParty(one) || !plan.hasParty(other)) {
            return false;
        }
        int mine = now.ticket[one];
        int yours = now.ticket[other];
        // One without a ticket has nothing to give that anybody likes more.
        if (mine == NONE || yours == NONE || mine == yours) {
            return false;
        }
        if (likeNow(one, yours) <= likeNow(one, mine) || likeNow(other, mine) <= likeNow(other, yours)) {
            return false;
        }
        int change = plan.trait(other, SIZE) - plan.trait(one, SIZE);
        return now.personsFor(mine, plan) + change <= plan.mostTickets()
                && now.personsFor(yours, plan) - change <= plan.mostTickets();
    }

    public int later(int sitting) {
        if (!plan.hasSitting(sitting)) {
            return NONE;
        }
        otherwise.reset();
        for (int k = 1; k <= sitting; k++) {
            tryToday(otherwise);
            otherwise.shift[k] = trial.lateBy[k];
        }
        return otherwise.shift[sitting];
    }

    public int rests(int one, int other) {
        if (!areTwo(one, other)) {
            return NONE;
        }
        int count = 0;
        for (int pair = 0; pair < 4; pair++) {
            if (isRest(plan.trait(one, COFFEE), plan.trait(other, COFFEE), pair >> 1, pair & 1)) {
                count++;
            }
        }
        return count;
    }

    public int rest(int one, int other, int k) {
        if (!areTwo(one, other) || k < 0) {
            return NONE;
        }
        int left = k;
        for (int pair = 0; pair < 4; pair++) {
            if (isRest(plan.trait(one, COFFEE), plan.trait(other, COFFEE), pair >> 1, pair & 1)) {
                if (left == 0) {
                    return 10 * (pair >> 1) + (pair & 1);
                }
                left--;
            }
        }
        return NO_ANSWER;
    }

    private boolean areTwo(int one, int other) {
        return plan.hasParty(one) && plan.hasParty(other) && one != other;
    }

    private static boolean isRest(int coffee, int otherCoffee, int does, int otherDoes) {
        return gain(coffee, otherCoffee, does, otherDoes) >= gain(coffee, otherCoffee, 1 - does, otherDoes)
                && gain(otherCoffee, coffee, otherDoes, does) >= gain(otherCoffee, coffee, 1 - otherDoes, does);
    }

    private static int gain(int own, int others, int does, int otherDoes) {
        if (does == 0) {
            return 0;
        }
        return otherDoes == 0 ? own : own - 2 * others;
    }

    public int note(int sitting, int late, boolean atLeast) {
        if (!plan.hasSitting(sitting) || late < 0 || late > MOST_LATE) {
            return NONE;
        }
        return notes.add(atLeast ? NOTE_AT_LEAST : NOTE_LESS, sitting, late);
    }

    public int out(int note) {
        return notes.has(note) ? notes.add(NOTE_STRIKES, note, 0) : NONE;
    }

    public boolean known(int n) {
        if (n < NONE || n > notes.count) {
            return false;
        }
        notes.knownBy = n;
        return true;
    }

    public int lingered() {
        notes.strike();
        int bits = 0;
        for (int p = 0; p <= plan.parties; p++) {
            otherwise.reset();
            // Nobody has the number behind all: that is the bit of none.
            otherwise.lingerer = p;
            trial.copy(now);
            trial.date = 0;
            car.goThrough(plan, trial, otherwise);
            if (notes.holdFor(trial.lateBy)) {
                bits |= 1 << p;
            }
        }
        return bits;
    }

    public int chance(int seed, int n, int hungry) {
        if (seed < 0 || n < 1 || n > MOST_TRIED_DAYS || hungry < 0 || hungry > MOST_HUNGRY) {
            return NONE;
        }
        int number = seed;
        int times = 0;
        for (int draw = 0; draw < DRAWS; draw++) {
            trial.copy(now);
            trial.number = number;
            for (int day = 0; day < n; day++) {
                car.goThrough(plan, trial, byChance);
            }
            number = trial.number;
            if (trial.hungryPersons - now.hungryPersons <= hungry) {
                times++;
            }
        }
        return times;
    }

    public int tried(int what, int i, int n) {
        boolean isSuch = what == 2 ? plan.hasParty(i) : what >= 0 && what <= 5 && i == 0;
        if (!isSuch || n < 0 || n > MOST_TRIED_DAYS) {
            return NONE;
        }
        otherwise.reset();
        otherwise.change(what, i);
        trial.copy(now);
        for (int day = 0; day < n; day++) {
            car.goThrough(plan, trial, otherwise);
        }
        return trial.glad - now.glad;
    }

    public int undo() {
        if (history.count < 1) {
            return NONE;
        }
        history.takeBack(now);
        return history.count;
    }

    public int keep() {
        image.copy(now);
        hasImage = true;
        return now.date;
    }

    public int back() {
        if (!hasImage) {
            return NONE;
        }
        now.copy(image);
        history.count = 0;
        return now.date;
    }

    public int count(int what) {
        switch (what) {
            case 0:
                return plan.parties;
            case 1:
                return plan.sittings;
            case 2:
                return plan.setting[SEATS];
            case 3:
                return plan.persons();
            case 4:
                return plan.setting[OVER];
            case 5:
                return plan.laws.knots;
            case 6:
                return now.date;
            case 7:
                return now.glad;
            case 8:
                return now.crossInAll();
            case 9:
                return now.hungryPersons;
            case 10:
                return now.paid;
            case 11:
                return plan.persons() - now.personsFor(NONE, plan);
            case 12:
                return notes.count;
            case 13:
                return notes.knownCount();
            case 14:
                return history.count;
            default:
                return NONE;
        }
    }

    /** The tokens of a text. */
    private static final class Tokens {
        private final int[] kind = new int[TAPE_BYTES + 1];
        private final int[] place = new int[TAPE_BYTES + 1];
        private final int[] value = new int[TAPE_BYTES + 1];
        private int count = 0;

        void split(byte[] tape, int n) {
            int length = Math.min(n, tape.length);
            count = 0;
            int end = 0;
            for (int at = 0; at < length; at = Math.max(at + 1, end)) {
                int c = tape[at];
                if (isDigit(c)) {
                    end = takeNumber(tape, length, at);
                } else if (isLetter(c)) {
                    end = takeWord(tape, length, at);
                } else if (c != ' ' && c != '\n') {
                    end = takeSign(c, at + 1 < length ? tape[at + 1] : 0, at);
                }
            }
            put(END, length, 0);
        }

        private void put(int newKind, int newPlace, int newValue) {
            if (count < kind.length) {
                kind[count] = newKind;
                place[count] = newPlace;
                value[count] = newValue;
                count++;
            }
        }

        private static boolean isDigit(int c) {
            return c >= '0' && c <= '9';
        }

        private static boolean isLetter(int c) {
            return c >= 'a' && c <= 'z';
        }

        private int takeNumber(byte[] tape, int length, int from) {
            int sum = 0;
            int at = from;
            for (; at < length && isDigit(tape[at]); at++) {
                sum = Math.min(sum * 10 + tape[at] - '0', TOO_BIG);
            }
            put(NUMBER, from, sum);
            return at;
        }

        private int takeWord(byte[] tape, int length, int from) {
            int end = from;
            while (end < length && isLetter(tape[end])) {
                end++;
            }
            int word = wordOf(tape, from, end);
            if (word != NONE) {
                put(FIRST_WORD + word, from, 0);
            } else if (end - from <= OWN_LETTERS) {
                put(OWN_WORD, from, packed(tape, from, end));
            } else {
                put(BAD, from, 0);
            }
            return end;
        }

        private static int wordOf(byte[] tape, int from, int end) {
            int word = 0;
            int start = 0;
            for (int i = 0; i < WORDS.length(); i++) {
                if (WORDS.charAt(i) == ' ') {
                    if (i - start == end - from && isWordAt(start, tape, from, end)) {
                        return word;
                    }
                    word++;
                    start = i + 1;
                }
            }
            return NONE;
        }

        private static boolean isWordAt(int start, byte[] tape, int from, int end) {
            for (int at = from; at < end && at < tape.length; at++) {
                int i = start + at - from;
                if (i >= WORDS.length() || WORDS.charAt(i) != tape[at]) {
                    return false;
                }
            }
            return true;
        }

        private static int packed(byte[] tape, int from, int end) {
            int letters = 0;
            for (int i = 0; i < OWN_LETTERS; i++) {
                int at = from + i;
                letters = letters << LETTER_BITS;
                if (at < end && at < tape.length) {
                    letters += tape[at] - 'a' + 1;
                }
            }
            return letters;
        }

        private int takeSign(int c, int next, int at) {
            int single = singleSign(c);
            if (single != BAD) {
                put(single, at, 0);
                return at + 1;
            }
            int pair = pairSign(c, next);
            if (pair != BAD) {
                put(pair, at, 0);
                return at + 2;
            }
            put(c == '<' ? LESS : c == '>' ? MORE : BAD, at, 0);
            return at + 1;
        }

        private static int singleSign(int c) {
            switch (c) {
                case ';':
                    return SEMICOLON;
                case '(':
                    return OPEN;
                case ')':
                    return CLOSE;
                case '+':
                    return PLUS;
                case '-':
                    return MINUS;
                case '*':
                    return TIMES;
                case '/':
                    return BY;
                case '=':
                    return EQUAL;
                default:
                    return BAD;
            }
        }

        private static int pairSign(int c, int next) {
            if (c == '<') {
                return next == '=' ? AT_MOST : next == '>' ? UNEQUAL : BAD;
            }
            return c == '>' && next == '=' ? AT_LEAST : BAD;
        }
    }

    /** Reads a text into a plan, or finds its first fault. */
    private static final class Reader {
        private final Tokens tokens = new Tokens();
        // Read into while the plan that holds is another: with a fault that one stays.
        private Plan plan = new Plan();
        private int at = 0;
        private int taken = 0;
        private int lines = 0;
        private int fault = 0;
        private int faultPlace = NONE;

        boolean read(byte[] tape, int n) {
            tokens.split(tape, n);
            plan.clear();
            at = 0;
            fault = 0;
            faultPlace = NONE;
            lines = 0;
            for (int turn = 0; turn < tokens.count && kind() != END; turn++) {
                if (!readLine()) {
                    return false;
                }
                lines++;
            }
            return true;
        }

        private int kind() {
            return at >= 0 && at < tokens.count ? tokens.kind[at] : END;
        }

        private int value() {
            return at >= 0 && at < tokens.count ? tokens.value[at] : 0;
        }

        private boolean refuse(int why) {
            fault = why;
            faultPlace = at >= 0 && at < tokens.count ? tokens.place[at] : NONE;
            return false;
        }

        private boolean expect(int wanted) {
            if (kind() != wanted) {
                return refuse(FAULT_TOKEN);
            }
            at++;
            return true;
        }

        private boolean readNumber(int least, int most) {
            if (kind() != NUMBER) {
                return refuse(FAULT_TOKEN);
            }
            taken = value();
            if (taken < least || taken > most) {
                return refuse(FAULT_TOO_MUCH);
            }
            at++;
            return true;
        }

        private boolean readLine() {
            boolean isRead;
            int word = kind();
            if (word == WORD_PARTY) {
                isRead = readParty();
            } else if (word == WORD_SITTING) {
                isRead = readSitting();
            } else if (word == WORD_LAW) {
                isRead = readLaw();
            } else if (word >= FIRST_WORD && word < FIRST_WORD + SETTINGS) {
                isRead = readSetting(word - FIRST_WORD);
            } else {
                isRead = refuse(FAULT_TOKEN);
            }
            return isRead && expect(SEMICOLON);
        }

        private boolean readParty() {
            if (plan.parties >= MAX_PARTIES) {
                return refuse(FAULT_TOO_MUCH);
            }
            at++;
            if (kind() != OWN_WORD) {
                return refuse(FAULT_TOKEN);
            }
            int letters = value();
            if (plan.numberOf(letters) != NONE) {
                return refuse(FAULT_TOLD);
            }
            at++;
            int party = plan.parties;
            for (int t = 0; t < TRAITS; t++) {
                if (!readNumber(TRAIT_LEAST[t], TRAIT_MOST[t])) {
                    return false;
                }
                plan.traits[party][t] = taken;
            }
            plan.letters[party] = letters;
            plan.parties++;
            return true;
        }

        private boolean readSitting() {
            int sitting = plan.sittings;
            if (sitting >= MAX_SITTINGS) {
                return refuse(FAULT_TOO_MUCH);
            }
            at++;
            int least = sitting > 0 ? plan.minute[sitting - 1] + 1 : 0;
            if (!readNumber(least, 999)) {
                return false;
            }
            plan.minute[sitting] = taken;
            if (!readNumber(0, MOST_PRICE)) {
                return false;
            }
            plan.toldPrice[sitting] = taken;
            plan.sittings++;
            return true;
        }

        private boolean readSetting(int setting) {
            if (setting < 0 || setting >= SETTINGS) {
                return refuse(FAULT_TOKEN);
            }
            if (plan.isTold[setting]) {
                return refuse(FAULT_TOLD);
            }
            at++;
            if (!readNumber(SETTING_LEAST[setting], SETTING_MOST[setting])) {
                return false;
            }
            plan.isTold[setting] = true;
            plan.setting[setting] = taken;
            return true;
        }

        private boolean readLaw() {
            at++;
            int rule = kind() - FIRST_RULE;
            if (rule < 0 || rule >= RULES) {
                return refuse(FAULT_TOKEN);
            }
            if (plan.laws.isTold(rule)) {
                return refuse(FAULT_TOLD);
            }
            at++;
            int from = plan.laws.length;
            if (!readRank(RANK_OR, 0)) {
                return false;
            }
            plan.laws.tell(rule, from);
            return true;
        }

        /** Reads what binds so tightly, with so many brackets open, and puts it behind its operands. */
        private boolean readRank(int rank, int open) {
            if (rank >= RANK_PART) {
                return readPart(open);
            }
            int nots = 0;
            for (; nots <= MAX_KNOTS && rank == RANK_COMPARE && kind() == WORD_NOT; nots++) {
                if (!takeKnot()) {
                    return false;
                }
            }
            if (!readRank(rank + 1, open)) {
                return false;
            }
            // One comparison alone: it has no second one beside it.
            int most = rank == RANK_COMPARE ? 1 : MAX_KNOTS;
            for (int k = 0; k < most && rankOf(kind()) == rank; k++) {
                int sign = kind();
                if (!takeKnot() || !readRank(rank + 1, open)) {
                    return false;
                }
                plan.laws.put(sign, 0);
            }
            for (int k = 0; k < nots; k++) {
                plan.laws.put(WORD_NOT, 0);
            }
            return true;
        }

        private boolean readPart(int open) {
            int part = kind();
            if (part == OPEN) {
                if (open >= MAX_OPEN) {
                    return refuse(FAULT_TOO_MUCH);
                }
                at++;
                return readRank(RANK_OR, open + 1) && expect(CLOSE);
            }
            if (part != NUMBER && (part < FIRST_NAME || part >= FIRST_NAME + NAMES)) {
                return refuse(FAULT_TOKEN);
            }
            int number = value();
            if (part == NUMBER && number > MOST_IN_LAW) {
                return refuse(FAULT_TOO_MUCH);
            }
            if (!takeKnot()) {
                return false;
            }
            plan.laws.put(part, number);
            return true;
        }

        private boolean takeKnot() {
            if (plan.laws.knots >= MAX_KNOTS) {
                return refuse(FAULT_TOO_MUCH);
            }
            plan.laws.knots++;
            at++;
            return true;
        }

        private static int rankOf(int sign) {
            if (sign >= LESS && sign <= MORE) {
                return RANK_COMPARE;
            }
            switch (sign) {
                case WORD_OR:
                    return RANK_OR;
                case WORD_AND:
                    return RANK_AND;
                case PLUS:
                case MINUS:
                    return RANK_SUM;
                case TIMES:
                case BY:
                    return RANK_PRODUCT;
                default:
                    return 0;
            }
        }
    }

    /** The laws of a text, each a row of knots in which a sign stands behind its operands. */
    private static final class Laws {
        private final int[] knot = new int[MAX_KNOTS];
        private final int[] number = new int[MAX_KNOTS];
        private int length = 0;
        // Knots read so far: while a law is read, its signs are read ahead of being put.
        private int knots = 0;
        private final int[] from = new int[RULES];
        private final int[] to = new int[RULES];
        private final int[] names = new int[NAMES];
        private final long[] stack = new long[MAX_KNOTS];

        void clear() {
            length = 0;
            knots = 0;
            for (int rule = 0; rule < RULES; rule++) {
                from[rule] = 0;
                to[rule] = 0;
            }
        }

        boolean isTold(int rule) {
            return rule >= 0 && rule < RULES && to[rule] > from[rule];
        }

        void tell(int rule, int start) {
            if (rule >= 0 && rule < RULES) {
                from[rule] = start;
                to[rule] = length;
            }
        }

        void put(int kind, int value) {
            if (length < MAX_KNOTS) {
                knot[length] = kind;
                number[length] = value;
                length++;
            }
        }

        /** The law's value for the names as they are set. */
        long work(int rule) {
            if (!isTold(rule)) {
                return ERROR;
            }
            int depth = 0;
            for (int i = Math.max(from[rule], 0); i < to[rule] && i < MAX_KNOTS; i++) {
                int kind = knot[i];
                int operands = kind == WORD_NOT ? 1 : isLeaf(kind) ? 0 : 2;
                depth -= operands;
                if (depth < 0 || depth + 1 >= MAX_KNOTS) {
                    return ERROR;
                }
                long value;
                if (operands == 2) {
                    value = join(kind, stack[depth], stack[depth + 1]);
                } else if (operands == 1) {
                    value = stack[depth] == 0 ? 1 : 0;
                } else {
                    value = leaf(kind, number[i]);
                }
                if (value > VALUE_LIMIT || value < -VALUE_LIMIT) {
                    return ERROR;
                }
                stack[depth] = value;
                depth++;
            }
            return depth == 1 ? stack[0] : ERROR;
        }

        private static boolean isLeaf(int kind) {
            return kind == NUMBER || kind >= FIRST_NAME;
        }

        private long leaf(int kind, int told) {
            int name = kind - FIRST_NAME;
            return name >= 0 && name < NAMES ? names[name] : told;
        }

        private static long join(int sign, long a, long b) {
            switch (sign) {
                case PLUS:
                    return a + b;
                case MINUS:
                    return a - b;
                case TIMES:
                    // Two values within the limit can make one beyond all longs: their sizes are looked at first.
                    long size = a < 0 ? -a : a;
                    long otherSize = b < 0 ? -b : b;
                    return size != 0 && otherSize > VALUE_LIMIT / size ? ERROR : a * b;
                case BY:
                    return b == 0 ? ERROR : a / b;
                case LESS:
                    return a < b ? 1 : 0;
                case AT_MOST:
                    return a <= b ? 1 : 0;
                case EQUAL:
                    return a == b ? 1 : 0;
                case UNEQUAL:
                    return a != b ? 1 : 0;
                case AT_LEAST:
                    return a >= b ? 1 : 0;
                case MORE:
                    return a > b ? 1 : 0;
                case WORD_AND:
                    return a != 0 && b != 0 ? 1 : 0;
                case WORD_OR:
                    return a != 0 || b != 0 ? 1 : 0;
                default:
                    return ERROR;
            }
        }
    }

    /** What a text tells. */
    private static final class Plan {
        private int parties = 0;
        private final int[] letters = new int[MAX_PARTIES];
        private final int[][] traits = new int[MAX_PARTIES][TRAITS];
        private int sittings = 0;
        private final int[] minute = new int[MAX_SITTINGS];
        private final int[] toldPrice = new int[MAX_SITTINGS];
        private final int[] setting = new int[SETTINGS];
        private final boolean[] isTold = new boolean[SETTINGS];
        private final Laws laws = new Laws();

        Plan() {
            System.arraycopy(SETTING_UNTOLD, 0, setting, 0, SETTINGS);
        }

        void clear() {
            parties = 0;
            sittings = 0;
            for (int s = 0; s < SETTINGS; s++) {
                setting[s] = SETTING_UNTOLD[s];
                isTold[s] = false;
            }
            for (int k = 0; k < MAX_SITTINGS; k++) {
                minute[k] = 0;
                toldPrice[k] = 0;
            }
            laws.clear();
        }

        boolean hasParty(int party) {
            return party >= 0 && party < parties;
        }

        boolean hasSitting(int sitting) {
            return sitting >= 0 && sitting < sittings;
        }

        int numberOf(int wanted) {
            for (int p = 0; p < parties; p++) {
                if (letters[p] == wanted) {
                    return p;
                }
            }
            return NONE;
        }

        int trait(int party, int what) {
            return party >= 0 && party < parties && what >= 0 && what < TRAITS ? traits[party][what] : 0;
        }

        int mostTickets() {
            return setting[SEATS] + setting[OVER];
        }

        int persons() {
            int sum = 0;
            for (int p = 0; p < parties; p++) {
                sum += traits[p][SIZE];
            }
            return sum;
        }

        /** The sitting that a party would choose by prices; NONE if it would choose none. */
        int chosen(int party, int[] prices) {
            int chosen = NONE;
            int most = NONE;
            for (int k = 0; k < sittings && k < prices.length; k++) {
                int gain = trait(party, FIRST_WISH + k) - prices[k];
                if (gain > most) {
                    most = gain;
                    chosen = k;
                }
            }
            return chosen;
        }
    }

    /** All that calls and days change, but for the notes. */
    private static final class State {
        private int date = 0;
        private int number = 0;
        private final int[] ticket = new int[MAX_PARTIES];
        private final int[] sign = new int[MAX_SITTINGS];
        private final int[] price = new int[MAX_SITTINGS];
        private final int[] meals = new int[MAX_PARTIES];
        private final int[] cross = new int[MAX_PARTIES];
        private final int[] away = new int[MAX_PARTIES];
        private final int[] hungry = new int[MAX_PARTIES];
        private int glad = 0;
        private int hungryPersons = 0;
        private int paid = 0;
        // Of the latest day, if one was seen.
        private boolean seen = false;
        private final int[] began = new int[MAX_SITTINGS];
        private final int[] lateBy = new int[MAX_SITTINGS];
        private final int[] sat = new int[MAX_SITTINGS];
        private final int[] stood = new int[MAX_SITTINGS];
        private final int[] ended = new int[MAX_SITTINGS];

        void begin(Plan plan) {
            date = 0;
            number = plan.setting[SEED];
            glad = 0;
            hungryPersons = 0;
            paid = 0;
            seen = false;
            for (int p = 0; p < MAX_PARTIES; p++) {
                ticket[p] = NONE;
                meals[p] = 0;
                cross[p] = 0;
                away[p] = 0;
                hungry[p] = 0;
            }
            for (int k = 0; k < MAX_SITTINGS; k++) {
                sign[k] = 0;
                price[k] = plan.toldPrice[k];
                forgetSitting(k);
            }
        }

        private void forgetSitting(int k) {
            if (k >= 0 && k < MAX_SITTINGS) {
                began[k] = 0;
                lateBy[k] = 0;
                sat[k] = 0;
                stood[k] = 0;
                ended[k] = 0;
            }
        }

        void copy(State other) {
            date = other.date;
            number = other.number;
            glad = other.glad;
            hungryPersons = other.hungryPersons;
            paid = other.paid;
            seen = other.seen;
            System.arraycopy(other.ticket, 0, ticket, 0, MAX_PARTIES);
            System.arraycopy(other.sign, 0, sign, 0, MAX_SITTINGS);
            System.arraycopy(other.price, 0, price, 0, MAX_SITTINGS);
            System.arraycopy(other.meals, 0, meals, 0, MAX_PARTIES);
            System.arraycopy(other.cross, 0, cross, 0, MAX_PARTIES);
            System.arraycopy(other.away, 0, away, 0, MAX_PARTIES);
            System.arraycopy(other.hungry, 0, hungry, 0, MAX_PARTIES);
            System.arraycopy(other.began, 0, began, 0, MAX_SITTINGS);
            System.arraycopy(other.lateBy, 0, lateBy, 0, MAX_SITTINGS);
            System.arraycopy(other.sat, 0, sat, 0, MAX_SITTINGS);
            System.arraycopy(other.stood, 0, stood, 0, MAX_SITTINGS);
            System.arraycopy(other.ended, 0, ended, 0, MAX_SITTINGS);
        }

        /** Persons with a ticket for a sitting, or without one for NONE. */
        int personsFor(int sitting, Plan plan) {
            int sum = 0;
            for (int p = 0; p < plan.parties; p++) {
                if (ticket[p] == sitting) {
                    sum += plan.trait(p, SIZE);
                }
            }
            return sum;
        }

        boolean isAnyLate(int sittings) {
            for (int k = 0; k < sittings && k < MAX_SITTINGS; k++) {
                if (lateBy[k] > 0) {
                    return true;
                }
            }
            return false;
        }

        int crossInAll() {
            int sum = 0;
            for (int p = 0; p < MAX_PARTIES; p++) {
                sum += cross[p];
            }
            return sum;
        }

        int draw() {
            number = (number * 1103515245 + 12345) & 0x7fffffff;
            return number / 65536;
        }
    }

    /** What is otherwise in a day than the plan and the state say. */
    private static final class Ways {
        private boolean drawn = false;
        private boolean allCome = false;
        private boolean noneStay = false;
        private int absentee = NONE;
        private int lingerer = NONE;
        private int moreSeats = 0;
        // 0: as many as the plan has.
        private int hands = 0;
        private final int[] shift = new int[MAX_SITTINGS];

        void reset() {
            drawn = false;
            allCome = false;
            noneStay = false;
            absentee = NONE;
            lingerer = NONE;
            moreSeats = 0;
            hands = 0;
            for (int k = 0; k < MAX_SITTINGS; k++) {
                shift[k] = 0;
            }
        }

        void change(int what, int i) {
            switch (what) {
                case 1:
                    allCome = true;
                    break;
                case 2:
                    absentee = i;
                    break;
                case 3:
                    moreSeats = 4;
                    break;
                case 4:
                    noneStay = true;
                    break;
                case 5:
                    hands = MOST_HANDS;
                    break;
                default:
                    break;
            }
        }
    }

    /** The dining car, in which days go by. */
    private static final class Car {
        private final boolean[] stands = new boolean[MAX_PARTIES];

        void goThrough(Plan plan, State state, Ways ways) {
            for (int p = 0; p < MAX_PARTIES; p++) {
                stands[p] = false;
            }
            int ready = 0;
            for (int k = 0; k < plan.sittings; k++) {
                ready = serve(plan, state, ways, k, ready);
            }
            for (int p = 0; p < plan.parties; p++) {
                if (stands[p]) {
                    state.hungry[p]++;
                    state.hungryPersons += plan.trait(p, SIZE);
                }
            }
            state.date++;
            state.seen = true;
        }

        /** One sitting: when the car is laid anew behind it. */
        private int serve(Plan plan, State state, Ways ways, int k, int ready) {
            if (!plan.hasSitting(k)) {
                return ready;
            }
            int told = plan.minute[k] + ways.shift[k];
            state.began[k] = Math.max(told, ready);
            state.lateBy[k] = state.began[k] - told;
            state.sat[k] = 0;
            state.ended[k] = state.began[k];
            for (int p = 0; p < plan.parties; p++) {
                if (stands[p]) {
                    stands[p] = !sitDown(plan, state, ways, p, k);
                }
            }
            for (int p = 0; p < plan.parties; p++) {
                if (state.ticket[p] == k) {
                    if (comes(plan, state, ways, p, k)) {
                        stands[p] = !sitDown(plan, state, ways, p, k);
                    } else {
                        state.away[p]++;
                    }
                }
            }
            state.stood[k] = standing(plan);
            return state.ended[k] + (state.sat[k] > 0 ? laying(plan, ways) : 0);
        }

        private int standing(Plan plan) {
            int sum = 0;
            for (int p = 0; p < plan.parties; p++) {
                if (stands[p]) {
                    sum += plan.trait(p, SIZE);
                }
            }
            return sum;
        }

        private static int laying(Plan plan, Ways ways) {
            int hands = Math.max(ways.hands > 0 ? ways.hands : plan.setting[HANDS], 1);
            return (plan.setting[LAY] + hands - 1) / hands;
        }

        private static boolean comes(Plan plan, State state, Ways ways, int p, int k) {
            if (ways.absentee == p) {
                return false;
            }
            if (ways.allCome || !plan.hasSitting(k)) {
                return true;
            }
            int miss = manner(MISS, plan, state, ways, p, k, state.lateBy[k]);
            if (!ways.drawn) {
                return miss < STAYS_AWAY_FROM;
            }
            return miss == 0 || state.draw() % HUNDRED >= miss;
        }

        private static boolean sitDown(Plan plan, State state, Ways ways, int p, int k) {
            int size = plan.trait(p, SIZE);
            if (!plan.hasParty(p) || !plan.hasSitting(k)
                    || plan.setting[SEATS] + ways.moreSeats - state.sat[k] < size) {
                return false;
            }
            int late = state.lateBy[k];
            int fed = state.began[k] + plan.setting[MEAL];
            state.sat[k] += size;
            state.meals[p]++;
            state.paid += size * state.price[k];
            state.glad += size * manner(LIKE, plan, state, ways, p, k, late);
            if (fed > plan.trait(p, OFF)) {
                state.cross[p]++;
            }
            int stay = ways.noneStay ? 0 : manner(STAY, plan, state, ways, p, k, late);
            int sign = state.sign[k];
            if (stay > 0) {
                state.cross[p] += sign;
            }
            int left = sign >= STRONGEST_SIGN ? 0 : stay - stay * sign / 4;
            state.ended[k] = Math.max(state.ended[k], fed + left);
            return true;
        }

        /** What a law says of a party, within its bounds, or what holds without it. */
        static int manner(int rule, Plan plan, State state, Ways ways, int party, int sitting, int late) {
            if (rule < 0 || rule >= RULES || !plan.hasSitting(sitting)) {
                return 0;
            }
            look(plan, state, ways, party, sitting, late);
            long value = plan.laws.work(rule);
            if (value == ERROR) {
                int name = rule == LIKE ? NAME_WISH : rule == STAY ? NAME_COFFEE : NAME_ABSENT;
                return plan.laws.names[name];
            }
            return (int) Math.min(Math.max(value, 0), RULE_MOST[rule]);
        }

        /** Sets the names that the laws see. */
        static void look(Plan plan, State state, Ways ways, int party, int sitting, int late) {
            if (!plan.hasSitting(sitting)) {
                return;
            }
            int coffee = plan.trait(party, COFFEE);
            if (party == ways.lingerer) {
                coffee = Math.min(coffee + LINGERING, TRAIT_MOST[COFFEE]);
            }
            int[] names = plan.laws.names;
            names[NAME_SIZE] = plan.trait(party, SIZE);
            names[NAME_WISH] = plan.trait(party, FIRST_WISH + sitting);
            names[NAME_LATE] = late;
            names[NAME_PRICE] = state.price[sitting];
            names[NAME_COFFEE] = coffee;
            names[NAME_ABSENT] = plan.trait(party, ABSENT);
            names[NAME_DATE] = state.date;
        }
    }

    /** The best way to give tickets. */
    private static final class Giving {
        private final int[][] worth = new int[MAX_PARTIES][MAX_SITTINGS];
        private final int[] left = new int[MAX_SITTINGS];
        private final int[] picked = new int[MAX_PARTIES];
        private final int[] best = new int[MAX_PARTIES];
        // What the parties from each on can bring at most: it ends searches that can't win.
        private final int[] hope = new int[MAX_PARTIES + 1];
        private int bestSum = 0;
        // The search is long: its answer is kept while the text and every worth are the same.
        private boolean known = false;

        /** What a ticket of a party for a sitting is worth; NONE: it can't have one. */
        void tell(int party, int sitting, int value) {
            if (party < 0 || party >= MAX_PARTIES || sitting < 0 || sitting >= MAX_SITTINGS) {
                return;
            }
            known = known && worth[party][sitting] == value;
            worth[party][sitting] = value;
        }

        void find(Plan plan) {
            if (known) {
                return;
            }
            hope[plan.parties] = 0;
            for (int p = plan.parties - 1; p >= 0; p--) {
                int most = 0;
                for (int k = 0; k < plan.sittings; k++) {
                    most = Math.max(most, worth[p][k]);
                }
                hope[p] = hope[p + 1] + most;
            }
            for (int k = 0; k < MAX_SITTINGS; k++) {
                left[k] = plan.mostTickets();
            }
            bestSum = NONE;
            search(plan, 0, 0);
            known = true;
        }

        private void search(Plan plan, int party, int sum) {
            if (party >= plan.parties || party >= MAX_PARTIES) {
                if (sum > bestSum) {
                    bestSum = sum;
                    System.arraycopy(picked, 0, best, 0, MAX_PARTIES);
                }
                return;
            }
            if (party < 0 || sum + hope[party] <= bestSum) {
                return;
            }
            int size = plan.trait(party, SIZE);
            picked[party] = NONE;
            search(plan, party + 1, sum);
            for (int k = 0; k < plan.sittings; k++) {
                if (worth[party][k] >= 0 && left[k] >= size) {
                    picked[party] = k;
                    left[k] -= size;
                    search(plan, party + 1, sum + worth[party][k]);
                    left[k] += size;
                }
            }
        }
    }

    /** The prices that level what the parties choose. */
    private static final class Levelling {
        private final int[] prices = new int[MAX_SITTINGS];
        private final int[] persons = new int[MAX_SITTINGS];
        private boolean found = false;
        // The answer hangs on the text alone.
        private boolean known = false;

        int priceOf(int sitting, Plan plan) {
            if (!known) {
                find(plan);
                known = true;
            }
            return found && sitting >= 0 && sitting < MAX_SITTINGS ? prices[sitting] : NO_ANSWER;
        }

        /**
         * Raises the price of a sitting that too many choose, until there is none. Who chooses it chooses it still if
         * others get dearer, so in every row that levels its price is higher: the row that is found is below all others
         * in each of its prices, and the least in sum.
         */
        private void find(Plan plan) {
            found = false;
            for (int k = 0; k < MAX_SITTINGS; k++) {
                prices[k] = 0;
            }
            for (int step = 0; step <= MAX_SITTINGS * MOST_LEVEL_PRICE; step++) {
                int full = tooFull(plan);
                if (full < 0 || full >= MAX_SITTINGS) {
                    found = true;
                    return;
                }
                if (prices[full] >= MOST_LEVEL_PRICE) {
                    return;
                }
                prices[full]++;
            }
        }

        /** The first sitting that more persons choose than there are seats; NONE if there is none. */
        private int tooFull(Plan plan) {
            for (int k = 0; k < MAX_SITTINGS; k++) {
                persons[k] = 0;
            }
            for (int p = 0; p < plan.parties; p++) {
                int chosen = plan.chosen(p, prices);
                if (chosen >= 0 && chosen < MAX_SITTINGS) {
                    persons[chosen] += plan.trait(p, SIZE);
                }
            }
            for (int k = 0; k < MAX_SITTINGS; k++) {
                if (persons[k] > plan.setting[SEATS]) {
                    return k;
                }
            }
            return NONE;
        }
    }

    /** What was noted of how late the sittings were on date 0. */
    private static final class Notes {
        private final int[] kind = new int[MAX_NOTES];
        // The sitting, or the note that is struck.
        private final int[] about = new int[MAX_NOTES];
        private final int[] minutes = new int[MAX_NOTES];
        private final boolean[] struck = new boolean[MAX_NOTES];
        private int count = 0;
        private int knownBy = NONE;

        void clear() {
            count = 0;
            knownBy = NONE;
        }

        boolean has(int note) {
            return note >= 0 && note < count;
        }

        int add(int newKind, int newAbout, int newMinutes) {
            if (count >= MAX_NOTES) {
                return NONE;
            }
            kind[count] = newKind;
            about[count] = newAbout;
            minutes[count] = newMinutes;
            count++;
            return count - 1;
        }

        int knownCount() {
            return knownBy == NONE ? count : Math.min(knownBy, count);
        }

        /** Finds which ones are struck, from the last one on: one that is struck strikes none. */
        void strike() {
            for (int i = 0; i < MAX_NOTES; i++) {
                struck[i] = false;
            }
            for (int i = knownCount() - 1; i >= 0; i--) {
                if (kind[i] == NOTE_STRIKES && !struck[i] && has(about[i])) {
                    struck[about[i]] = true;
                }
            }
        }

        boolean holdFor(int[] late) {
            for (int i = 0; i < knownCount(); i++) {
                if (kind[i] != NOTE_STRIKES && !struck[i] && about[i] >= 0 && about[i] < late.length
                        && (late[about[i]] >= minutes[i]) != (kind[i] == NOTE_AT_LEAST)) {
                    return false;
                }
            }
            return true;
        }
    }

    /** What can be undone, the latest last. */
    private static final class History {
        private final int[] kind = new int[MAX_UNDO];
        private final int[] whose = new int[MAX_UNDO];
        private final int[] former = new int[MAX_UNDO];
        private int count = 0;

        void add(int newKind, int newWhose, int newFormer) {
            if (count >= MAX_UNDO) {
                System.arraycopy(kind, 1, kind, 0, MAX_UNDO - 1);
                System.arraycopy(whose, 1, whose, 0, MAX_UNDO - 1);
                System.arraycopy(former, 1, former, 0, MAX_UNDO - 1);
                count = MAX_UNDO - 1;
            }
            kind[count] = newKind;
            whose[count] = newWhose;
            former[count] = newFormer;
            count++;
        }

        void takeBack(State state) {
            if (count < 1) {
                return;
            }
            count--;
            int[] row = kind[count] == UNDO_TICKET ? state.ticket
                    : kind[count] == UNDO_SIGN ? state.sign : state.price;
            if (whose[count] >= 0 && whose[count] < row.length) {
                row[whose[count]] = former[count];
            }
        }
    }
}
