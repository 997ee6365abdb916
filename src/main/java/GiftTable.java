import java.util.Arrays;

/**
 * Gifts for a wedding by guests who do not speak: what a heap of gifts is worth, how guests choose, and what comes of
 * it. The numbered promises stand in DOC.md; words in capitals in the comments are that document's words.
 */
public final class GiftTable {
    public static final int NONE = -1;

    private static final int MOST_THINGS = 4;
    private static final int MOST_GUESTS = 12;
    private static final int MOST_TEXTS = 6;
    private static final int SORTS = 6;
    private static final int IMAGES = 2;
    private static final int MOST_BYTES = 400;
    private static final int BYTES_FED = 20;
    private static final int FACTS = 4;
    private static final int COIN = 4;
    private static final int CHOICES = 5;
    private static final int NOTHING = -1000;
    private static final int MOST_SEED = 1000000;

    private static final int BAD_NUMBER = -1;
    private static final int NO_SUCH = -2;
    private static final int CANNOT_BE = -3;
    private static final int NO_ROOM = -5;
    private static final int BAD_TAPE = -6;

    private static final int WANTED = 0;
    private static final int WORTH = 1;
    private static final int EXTRA = 2;
    private static final int PRICE = 3;

    private static final int LETTER = 0;
    private static final int AGE = 1;
    private static final int PURSE = 2;
    private static final int SORT = 3;

    private final State state;
    private final State[] images;
    private final boolean[] imageKept;
    private final int[] tape;
    private int tapeLength;
    private int faultAt;
    private int lateGuests;
    private int refusedBy;
    private final int[] refusals;
    private int version;
    private final int[] told;
    private final Reader reader;
    private final Heaps heaps;
    private final Party party;
    private final Mean meanHeap;
    private final Together speaking;
    private final Blind blindWay;
    private final Quiet quiet;
    private final Wedding latest;
    private final Wedding passing;

    public GiftTable() {
        state = new State();
        images = new State[IMAGES];
        for (int k = 0; k < IMAGES; k++) {
            images[k] = new State();
        }
        imageKept = new boolean[IMAGES];
        tape = new int[MOST_BYTES];
        faultAt = NONE;
        refusals = new int[5];
        told = new int[MOST_THINGS];
        reader = new Reader();
        heaps = new Heaps();
        party = new Party();
        meanHeap = new Mean();
        speaking = new Together();
        blindWay = new Blind();
        quiet = new Quiet();
        latest = new Wedding();
        passing = new Wedding();
    }

    public int thing(int wanted, int worth, int extra, int price) {
        if (!thingFactCanBe(WANTED, wanted) || !thingFactCanBe(WORTH, worth) || !thingFactCanBe(EXTRA, extra)
                || !thingFactCanBe(PRICE, price)) {
            return refuse(BAD_NUMBER);
        }
        if (state.things >= MOST_THINGS) {
            return refuse(NO_ROOM);
        }
        int number = state.things;
        state.things = number + 1;
        state.thingFacts[number * FACTS + WANTED] = wanted;
        state.thingFacts[number * FACTS + WORTH] = worth;
        state.thingFacts[number * FACTS + EXTRA] = extra;
        state.thingFacts[number * FACTS + PRICE] = price;
        return altered(number);
    }

    public int put(int thing, int what, int value) {
        if (!thingFactCanBe(what, value)) {
            return refuse(BAD_NUMBER);
        }
        if (!state.hasThing(thing)) {
            return refuse(NO_SUCH);
        }
        int was = state.thingFacts[thing * FACTS + what];
        state.thingFacts[thing * FACTS + what] = value;
        return altered(was);
    }

    public int instead(int thing, int other, int hundredths) {
        if (!within(hundredths, 0, 100) || (other == NONE && hundredths != 0)) {
            return refuse(BAD_NUMBER);
        }
        if (!state.hasThing(thing) || thing == other || (other != NONE && !state.hasThing(other))) {
            return refuse(NO_SUCH);
        }
        state.insteadBy[thing] = other;
        state.insteadHundredths[thing] = hundredths;
        return altered(0);
    }

    public int bonus(int one, int other, int bonus) {
        if (!within(bonus, 0, 200)) {
            return refuse(BAD_NUMBER);
        }
        if (!state.hasThing(one) || !state.hasThing(other) || one == other) {
            return refuse(NO_SUCH);
        }
        int was = state.bonuses[one * MOST_THINGS + other];
        state.bonuses[one * MOST_THINGS + other] = bonus;
        state.bonuses[other * MOST_THINGS + one] = bonus;
        return altered(was);
    }

    public int guest(int letter, int age, int purse, int sort) {
        if (!guestCanBe(letter, age, purse, sort)) {
            return refuse(BAD_NUMBER);
        }
        if (state.guests >= MOST_GUESTS) {
            return refuse(NO_ROOM);
        }
        return altered(state.addGuest(letter, age, purse, sort));
    }

    public int always(int guest, int thing) {
        if (!state.hasGuest(guest) || (thing != NONE && !state.hasThing(thing))) {
            return refuse(NO_SUCH);
        }
        int was = state.alwaysBrings[guest];
        state.alwaysBrings[guest] = thing;
        return altered(was);
    }

    public int sees(int guest, int sees) {
        if (!within(sees, 0, 1)) {
            return refuse(BAD_NUMBER);
        }
        if (!state.hasGuest(guest)) {
            return refuse(NO_SUCH);
        }
        int was = state.seesList[guest];
        state.seesList[guest] = sees;
        return altered(was);
    }

    public int pair(int guest, int other) {
        if (!state.hasGuest(guest) || (other != NONE && !state.hasGuest(other))) {
            return refuse(NO_SUCH);
        }
        if (other == NONE) {
            state.part(guest);
            return altered(0);
        }
        if (guest == other || state.isWithThird(guest, other) || state.isWithThird(other, guest)) {
            return refuse(CANNOT_BE);
        }
        state.with[guest] = other;
        state.with[other] = guest;
        return altered(0);
    }

    public int coin(int hundredths) {
        if (!within(hundredths, 0, 100)) {
            return refuse(BAD_NUMBER);
        }
        int was = state.coinHundredths;
        state.coinHundredths = hundredths;
        return altered(was);
    }

    public int of(int guest, int what) {
        if (!state.hasGuest(guest)) {
            return NOTHING;
        }
        switch (what) {
            case 0:
            case 1:
            case 2:
            case 3:
                return state.guestFacts[guest * FACTS + what];
            case 4:
                return state.alwaysBrings[guest];
            case 5:
                return state.seesList[guest];
            case 6:
                return state.with[guest];
            case 7:
                return state.isGiver(guest) ? 1 : 0;
            case 8:
                return state.isGiver(guest) ? state.purseOf(guest) : 0;
            default:
                return NOTHING;
        }
    }

    public int feed(int a, int b, int c, int d, int e) {
        if (tapeLength + BYTES_FED > MOST_BYTES) {
            return NONE;
        }
        feedFour(a);
        feedFour(b);
        feedFour(c);
        feedFour(d);
        feedFour(e);
        return tapeLength;
    }

    public int end(int n) {
        if (!within(n, 0, tapeLength)) {
            return NONE;
        }
        tapeLength = n;
        return n;
    }

    public int row() {
        if (tapeLength == 0) {
            return refuse(BAD_TAPE);
        }
        int came = 0;
        int late = 0;
        for (int at = 0; at < tapeLength; at += FACTS) {
            if (at + FACTS <= tapeLength && state.guests < MOST_GUESTS
                    && guestCanBe(tape[at], tape[at + 1], tape[at + 2], tape[at + 3])) {
                state.addGuest(tape[at], tape[at + 1], tape[at + 2], tape[at + 3]);
                came++;
            } else {
                late++;
            }
        }
        tapeLength = 0;
        lateGuests = late;
        return altered(came);
    }

    public int late() {
        return lateGuests;
    }

    public int text() {
        int length = tapeLength;
        tapeLength = 0;
        if (state.texts >= MOST_TEXTS) {
            return refuse(NO_ROOM);
        }
        Text read = reader.read(tape, length);
        faultAt = reader.faultAt;
        if (read == null) {
            return refuse(BAD_TAPE);
        }
        int number = state.texts;
        state.written[number] = read;
        state.texts = number + 1;
        return accept(number);
    }

    public int fault() {
        return faultAt;
    }

    public int way(int sort, int text) {
        if (!within(sort, 0, SORTS - 1)) {
            return refuse(BAD_NUMBER);
        }
        if (!within(text, NONE, state.texts - 1)) {
            return refuse(NO_SUCH);
        }
        int was = state.ways[sort];
        state.ways[sort] = text;
        return altered(was);
    }

    public int weight(int guest, int choice, int struck) {
        int giver = giverOf(guest);
        if (giver == NONE || !isChoice(choice) || !within(struck, 0, 12)) {
            return NONE;
        }
        return party.weightOf(state, giver, choice, struck);
    }

    public int heap(int a, int b, int c, int d, int what) {
        if (!tellHeap(a, b, c, d)) {
            return NONE;
        }
        heaps.weigh(state, told);
        switch (what) {
            case 0:
                return heaps.value;
            case 1:
                return heaps.doubled;
            case 2:
                return heaps.missing;
            default:
                return NONE;
        }
    }

    public int mean(int what) {
        if (!within(what, 0, 2)) {
            return NONE;
        }
        workMean();
        return meanHeap.means[what];
    }

    public int none(int thing) {
        if (!state.hasThing(thing)) {
            return NONE;
        }
        party.seat(state, version);
        party.fillChances(state, version);
        return meanHeap.lacking(party, thing);
    }

    public int together(int what) {
        speakOut();
        switch (what) {
            case 0:
                return speaking.greatest();
            case 1:
                return speaking.countedWays();
            case 2:
                return speaking.doubled;
            case 3:
                return speaking.missing;
            default:
                return NONE;
        }
    }

    public int brings(int guest) {
        int giver = giverOf(guest);
        if (giver == NONE) {
            return NONE;
        }
        speakOut();
        return speaking.firsts[giver];
    }

    public int dear(int guest, int choice) {
        int giver = giverOf(guest);
        if (giver == NONE || !party.canBring(giver, choice)) {
            return NONE;
        }
        speakOut();
        return speaking.lessWith(party, heaps, giver, choice);
    }

    public int loss() {
        workMean();
        speakOut();
        return 100 * speaking.greatest() - meanHeap.means[0];
    }

    public int blind(int m, int choice) {
        if (state.things == 0 || !within(m, 1, Blind.MOST_GIVERS) || (choice != NONE && !isChoice(choice))) {
            return NONE;
        }
        blindWay.work(state, heaps, m, version);
        return choice == NONE ? blindWay.hundredths : blindWay.tenthsOf(choice, state.things);
    }

    public int rule(int thing) {
        if (state.things == 0 || (thing != NONE && !state.hasThing(thing))) {
            return NONE;
        }
        party.seat(state, version);
        heaps.price(state, party.givers, version);
        quiet.findRule(party, heaps, version);
        return thing == NONE ? quiet.ruleValue : quiet.bestBounds[thing];
    }

    public int letters(int a, int b, int c, int d) {
        fillTold(a, b, c, d);
        int floor = 0;
        for (int k = 0; k < MOST_THINGS; k++) {
            if (k >= state.things ? told[k] != 0 : !within(told[k], floor, 26)) {
                return NONE;
            }
            floor = told[k];
        }
        party.seat(state, version);
        return quiet.valueBy(state, party, heaps, told);
    }

    public int rest(int what) {
        settle();
        switch (what) {
            case 0:
                return quiet.restValue;
            case 1:
                return quiet.rounds;
            case 2:
                return quiet.restDoubled;
            case 3:
                return quiet.restMissing;
            default:
                return NONE;
        }
    }

    public int find(int guest) {
        int giver = giverOf(guest);
        if (giver == NONE) {
            return NONE;
        }
        settle();
        return quiet.restBrings[giver];
    }

    public int wed(int seed) {
        if (!within(seed, 0, MOST_SEED)) {
            return refuse(BAD_NUMBER);
        }
        party.seat(state, version);
        party.fillChances(state, version);
        latest.hold(state, party, heaps, seed);
        return accept(latest.value);
    }

    public int had(int thing) {
        return latest.held && within(thing, 0, COIN) ? latest.heap[thing] : NONE;
    }

    public int brought(int guest) {
        return latest.held && within(guest, 0, MOST_GUESTS - 1) ? latest.broughtBy[guest] : NONE;
    }

    public int round(int n, int seed) {
        if (!within(n, 1, 100) || !within(seed, 0, MOST_SEED)) {
            return NONE;
        }
        party.seat(state, version);
        party.fillChances(state, version);
        int sum = 0;
        int s = seed;
        for (int k = 0; k < n; k++) {
            passing.hold(state, party, heaps, s);
            s = passing.drawn;
            sum += passing.value;
        }
        return sum;
    }

    public int change(int a, int b, int c, int d, int loss, int what) {
        if (!tellHeap(a, b, c, d) || !within(loss, 0, 100) || !within(what, 0, 2)) {
            return NONE;
        }
        heaps.findChange(state, told, loss);
        if (what == 0) {
            return heaps.gain;
        }
        return what == 1 ? heaps.given : heaps.gotten;
    }

    public int sure(int what) {
        if (!within(what, 0, 1)) {
            return NONE;
        }
        party.seat(state, version);
        int liked = party.mostLiked(state, told);
        return liked == NONE || what == 0 ? liked : told[liked];
    }

    public int image(int k) {
        if (!within(k, 0, IMAGES - 1)) {
            return refuse(BAD_NUMBER);
        }
        images[k].copyFrom(state);
        imageKept[k] = true;
        return accept(0);
    }

    public int back(int k) {
        if (!within(k, 0, IMAGES - 1)) {
            return refuse(BAD_NUMBER);
        }
        if (!imageKept[k]) {
            return refuse(NO_SUCH);
        }
        state.copyFrom(images[k]);
        return altered(0);
    }

    public int count(int what) {
        switch (what) {
            case 0:
                return state.things;
            case 1:
                return state.guests;
            case 2:
                return state.texts;
            case 3:
                return state.countGivers();
            case 4:
                return tapeLength;
            default:
                return within(what, 5, 9) ? refusals[what - 5] : NONE;
        }
    }

    public int status() {
        return refusedBy;
    }

    private static boolean within(int number, int least, int most) {
        return number >= least && number <= most;
    }

    private static boolean thingFactCanBe(int what, int value) {
        switch (what) {
            case WANTED:
                return within(value, 0, 9);
            case WORTH:
            case EXTRA:
                return within(value, 0, 99);
            case PRICE:
                return within(value, 1, 200);
            default:
                return false;
        }
    }

    private static boolean guestCanBe(int letter, int age, int purse, int sort) {
        return within(letter, 0, 25) && within(age, 0, 99) && within(purse, 0, 200) && within(sort, 0, SORTS - 1);
    }

    private int refuse(int by) {
        refusedBy = by;
        // There is no -4: the counters of -5 and -6 stand right behind that of -3.
        refusals[by < CANNOT_BE ? -by - 2 : -by - 1]++;
        return by;
    }

    private int accept(int answer) {
        refusedBy = 0;
        return answer;
    }

    /** Accepts a call after which what was worked out for the older version is stale. */
    private int altered(int answer) {
        version++;
        return accept(answer);
    }

    private void feedFour(int number) {
        for (int shift = 24; shift >= 0 && tapeLength < MOST_BYTES; shift -= 8) {
            tape[tapeLength] = (number >> shift) & 255;
            tapeLength++;
        }
    }

    private int giverOf(int guest) {
        if (!state.hasGuest(guest)) {
            return NONE;
        }
        party.seat(state, version);
        return party.giverAt[guest];
    }

    private boolean isChoice(int choice) {
        return choice == COIN || state.hasThing(choice);
    }

    private void fillTold(int a, int b, int c, int d) {
        told[0] = a;
        told[1] = b;
        told[2] = c;
        told[3] = d;
    }

    private boolean tellHeap(int a, int b, int c, int d) {
        fillTold(a, b, c, d);
        for (int k = 0; k < MOST_THINGS; k++) {
            if (!within(told[k], 0, k < state.things ? 12 : 0)) {
                return false;
            }
        }
        return true;
    }

    private void workMean() {
        party.seat(state, version);
        party.fillChances(state, version);
        heaps.price(state, party.givers, version);
        meanHeap.work(party, heaps, version);
    }

    private void speakOut() {
        party.seat(state, version);
        heaps.price(state, party.givers, version);
        speaking.work(party, heaps, version);
    }

    private void settle() {
        party.seat(state, version);
        quiet.settle(state, party, heaps, version);
    }

    /** All that an IMAGE keeps. */
    private static final class State {
        int things;
        final int[] thingFacts = new int[MOST_THINGS * FACTS];
        final int[] insteadBy = new int[MOST_THINGS];
        final int[] insteadHundredths = new int[MOST_THINGS];
        final int[] bonuses = new int[MOST_THINGS * MOST_THINGS];
        int guests;
        final int[] guestFacts = new int[MOST_GUESTS * FACTS];
        final int[] alwaysBrings = new int[MOST_GUESTS];
        final int[] seesList = new int[MOST_GUESTS];
        final int[] with = new int[MOST_GUESTS];
        int coinHundredths = 50;
        int texts;
        final Text[] written = new Text[MOST_TEXTS];
        final int[] ways = new int[SORTS];

        State() {
            Arrays.fill(insteadBy, NONE);
            Arrays.fill(alwaysBrings, NONE);
            Arrays.fill(with, NONE);
            Arrays.fill(ways, NONE);
        }

        void copyFrom(State other) {
            things = other.things;
            System.arraycopy(other.thingFacts, 0, thingFacts, 0, thingFacts.length);
            System.arraycopy(other.insteadBy, 0, insteadBy, 0, insteadBy.length);
            System.arraycopy(other.insteadHundredths, 0, insteadHundredths, 0, insteadHundredths.length);
            System.arraycopy(other.bonuses, 0, bonuses, 0, bonuses.length);
            guests = other.guests;
            System.arraycopy(other.guestFacts, 0, guestFacts, 0, guestFacts.length);
            System.arraycopy(other.alwaysBrings, 0, alwaysBrings, 0, alwaysBrings.length);
            System.arraycopy(other.seesList, 0, seesList, 0, seesList.length);
            System.arraycopy(other.with, 0, with, 0, with.length);
            coinHundredths = other.coinHundredths;
            texts = other.texts;
            for (int k = 0; k < MOST_TEXTS; k++) {
                written[k] = other.written[k];
            }
            System.arraycopy(other.ways, 0, ways, 0, ways.length);
        }

        boolean hasThing(int thing) {
            return within(thing, 0, things - 1);
        }

        boolean hasGuest(int guest) {
            return within(guest, 0, guests - 1);
        }

        int fact(int thing, int what) {
            return thingFacts[thing * FACTS + what];
        }

        int addGuest(int letter, int age, int purse, int sort) {
            int at = guests * FACTS;
            guestFacts[at + LETTER] = letter;
            guestFacts[at + AGE] = age;
            guestFacts[at + PURSE] = purse;
            guestFacts[at + SORT] = sort;
            guests++;
            return guests - 1;
        }

        void part(int guest) {
            int other = with[guest];
            if (other != NONE) {
                with[other] = NONE;
                with[guest] = NONE;
            }
        }

        boolean isWithThird(int guest, int other) {
            return with[guest] != NONE && with[guest] != other;
        }

        boolean isGiver(int guest) {
            return with[guest] == NONE || with[guest] > guest;
        }

        int countGivers() {
            int givers = 0;
            for (int g = 0; g < guests; g++) {
                if (isGiver(g)) {
                    givers++;
                }
            }
            return givers;
        }

        int purseOf(int giver) {
            int own = guestFacts[giver * FACTS + PURSE];
            return with[giver] == NONE ? own : own + guestFacts[with[giver] * FACTS + PURSE];
        }

        Text wayOf(int sort) {
            int text = ways[sort];
            return within(text, 0, texts - 1) ? written[text] : null;
        }
    }

    /** A WAY as code for a small stack machine; it never changes, so IMAGES may share it. */
    private static final class Text {
        static final int LIKES = 0;
        static final int COINS = 1;
        static final int CLAUSE_CELLS = 4;
        static final int STACK = 64;
        static final int MOST_ASKED = 10;

        static final int ARGUMENTS = 2048;
        static final int NUMBER = 0;
        static final int ASKED = 1;
        static final int PLUS = 2;
        static final int MINUS = 3;
        static final int TIMES = 4;
        static final int THROUGH = 5;
        static final int LESS = 6;
        static final int MORE = 7;
        static final int SAME = 8;
        static final int NOT = 9;
        static final int AND = 10;
        static final int OR = 11;

        static final int MOST_WEIGHT = 1000;
        static final long MOST = 1000000000L;
        static final long BROKEN = Long.MIN_VALUE;

        private final int[] code;
        private final int[] clauses;

        /** Of each clause: its kind, where its SUM begins, where its TEST begins, where it ends. */
        Text(int[] code, int[] clauses) {
            this.code = code;
            this.clauses = clauses;
        }

        /** What the last clause of a kind that HOLDS tells, as a WEIGHT. */
        int tells(int kind, int[] asked, long[] stack) {
            for (int c = clauses.length - CLAUSE_CELLS; c >= 0; c -= CLAUSE_CELLS) {
                int test = clauses[c + 2];
                int end = clauses[c + 3];
                if (clauses[c] == kind && (test == end || reckon(test, end, asked, stack) == 1)) {
                    long sum = reckon(clauses[c + 1], test, asked, stack);
                    if (sum != BROKEN) {
                        return (int) Math.max(0L, Math.min((long) MOST_WEIGHT, sum));
                    }
                }
            }
            return 0;
        }

        /** A SUM's number or a TEST's 1 or 0; BROKEN. */
        private long reckon(int from, int to, int[] asked, long[] stack) {
            int depth = 0;
            for (int at = from; at < to; at++) {
                int op = code[at] / ARGUMENTS;
                int argument = code[at] % ARGUMENTS;
                if (op == NUMBER || op == ASKED) {
                    if (depth >= STACK) {
                        return BROKEN;
                    }
                    stack[depth] = op == NUMBER ? argument : asked[argument];
                    depth++;
                } else if (depth < 1) {
                    return BROKEN;
                } else if (op == NOT) {
                    stack[depth - 1] = 1 - stack[depth - 1];
                } else if (op == AND || op == OR) {
                    // What is settled stays on the stack and the part behind is passed over.
                    if ((stack[depth - 1] == 1) == (op == OR)) {
                        at = Math.max(at, argument - 1);
                    } else {
                        depth--;
                    }
                } else {
                    long joined = depth < 2 ? BROKEN : join(op, stack[depth - 2], stack[depth - 1]);
                    if (joined > MOST || joined < -MOST) {
                        return BROKEN;
                    }
                    depth--;
                    stack[depth - 1] = joined;
                }
            }
            return depth == 1 ? stack[0] : BROKEN;
        }

        private static long join(int op, long a, long b) {
            switch (op) {
                case PLUS:
                    return a + b;
                case MINUS:
                    return a - b;
                case TIMES:
                    return a * b;
                case THROUGH:
                    return b == 0 ? BROKEN : a / b;
                case LESS:
                    return a < b ? 1 : 0;
                case MORE:
                    return a > b ? 1 : 0;
                default:
                    return a == b ? 1 : 0;
            }
        }
    }

    /** Reads a TEXT from the TAPE: splits it into TOKENS, then goes down the grammar and writes code. */
    private static final class Reader {
        private static final int WORD_CELLS = 7;
        private static final int WORD_COUNT = 16;
        /** All words, each with blanks up to WORD_CELLS. */
        private static final String WORDS =
                "likes  coin   if     or     and    not    thing  wanted worth  price  letter age    purse  sort   givers struck ";
        private static final int WORD_LIKES = 0;
        private static final int WORD_COIN = 1;
        private static final int WORD_IF = 2;
        private static final int WORD_OR = 3;
        private static final int WORD_AND = 4;
        private static final int WORD_NOT = 5;
        private static final int FIRST_ASKED = 6;

        private static final int END = -1;
        private static final int UNKNOWN = -2;
        private static final int SIGNS = 100;
        private static final int NUMBERS = 1000;

        private static final int MOST_CLAUSES = 12;
        private static final int MOST_PARTS = 50;
        private static final int MOST_BRACKETS = 8;
        private static final int MOST_NUMBER = 1000;

        /** A token is a word's place in WORDS, SIGNS and a byte, NUMBERS and a number, UNKNOWN or END. */
        private final int[] tokens = new int[MOST_BYTES + 1];
        private final int[] places = new int[MOST_BYTES + 1];
        private final int[] code = new int[MOST_BYTES];
        private final int[] clauses = new int[MOST_CLAUSES * Text.CLAUSE_CELLS];
        private int tokenCount;
        private int at;
        private int size;
        private int clauseCount;
        private int parts;
        int faultAt = NONE;

        /** The TEXT, or null: then faultAt tells the FAULT. */
        Text read(int[] tape, int length) {
            split(tape, length);
            at = 0;
            size = 0;
            clauseCount = 0;
            parts = 0;
            faultAt = NONE;
            readClause();
            for (int n = 0; n < MOST_CLAUSES && takes(SIGNS + ';'); n++) {
                readClause();
            }
            if (tokens[at] != END) {
                fail();
            }
            if (faultAt != NONE) {
                return null;
            }
            return new Text(Arrays.copyOf(code, size), Arrays.copyOf(clauses, clauseCount * Text.CLAUSE_CELLS));
        }

        private void split(int[] tape, int length) {
            tokenCount = 0;
            int from = 0;
            for (int to = 1; to <= length; to++) {
                // A token ends where the next byte is not of the same row.
                if (to < length && rowKind(tape[to]) != 0 && rowKind(tape[to]) == rowKind(tape[from])) {
                    continue;
                }
                if (tape[from] != ' ') {
                    addToken(tokenOf(tape, from, to), from);
                }
                from = to;
            }
            addToken(END, length);
        }

        private void addToken(int token, int place) {
            if (tokenCount < tokens.length) {
                tokens[tokenCount] = token;
                places[tokenCount] = place;
                tokenCount++;
            }
        }

        private static int rowKind(int sign) {
            if (within(sign, 'a', 'z')) {
                return 1;
            }
            return within(sign, '0', '9') ? 2 : 0;
        }

        private static int tokenOf(int[] tape, int from, int to) {
            switch (rowKind(tape[from])) {
                case 1:
                    return wordOf(tape, from, to);
                case 2:
                    return numberOf(tape, from, to);
                default:
                    return SIGNS + tape[from];
            }
        }

        private static int wordOf(int[] tape, int from, int to) {
            if (to - from >= WORD_CELLS) {
                return UNKNOWN;
            }
            for (int word = 0; word < WORD_COUNT; word++) {
                int cell = word * WORD_CELLS;
                int same = 0;
                while (same < to - from && WORDS.charAt(cell + same) == tape[from + same]) {
                    same++;
                }
                if (same == to - from && WORDS.charAt(cell + same) == ' ') {
                    return word;
                }
            }
            return UNKNOWN;
        }

        private static int numberOf(int[] tape, int from, int to) {
            int number = 0;
            for (int k = from; k < to; k++) {
                number = Math.min(MOST_NUMBER + 1, number * 10 + tape[k] - '0');
            }
            return number > MOST_NUMBER ? UNKNOWN : NUMBERS + number;
        }

        /** Goes on over a token if it stands here and there was no FAULT. */
        private boolean takes(int token) {
            if (faultAt != NONE || tokens[at] != token || at >= tokenCount - 1) {
                return false;
            }
            at++;
            return true;
        }

        private void fail() {
            if (faultAt == NONE) {
                faultAt = places[at];
            }
        }

        private void write(int op, int argument) {
            if (faultAt == NONE && size < code.length) {
                code[size] = op * Text.ARGUMENTS + argument;
                size++;
            }
        }

        private void readClause() {
            // Of the 13th clause the first token is the FAULT, whatever it is.
            boolean likes = clauseCount < MOST_CLAUSES && takes(WORD_LIKES);
            if (!likes && (clauseCount >= MOST_CLAUSES || !takes(WORD_COIN))) {
                fail();
                return;
            }
            int cell = clauseCount * Text.CLAUSE_CELLS;
            clauses[cell] = likes ? Text.LIKES : Text.COINS;
            clauses[cell + 1] = size;
            readSum(0);
            clauses[cell + 2] = size;
            if (takes(WORD_IF)) {
                readTest(0);
            }
            clauses[cell + 3] = size;
            clauseCount++;
        }

        private void readTest(int brackets) {
            readBoth(brackets);
            for (int n = 0; n < MOST_BYTES && takes(WORD_OR); n++) {
                int hole = size;
                write(Text.OR, 0);
                readBoth(brackets);
                fill(hole, Text.OR);
            }
        }

        private void readBoth(int brackets) {
            readPlain(brackets);
            for (int n = 0; n < MOST_BYTES && takes(WORD_AND); n++) {
                int hole = size;
                write(Text.AND, 0);
                readPlain(brackets);
                fill(hole, Text.AND);
            }
        }

        /** Tells a jump written earlier that it goes to here. */
        private void fill(int hole, int op) {
            if (faultAt == NONE && hole < size) {
                code[hole] = op * Text.ARGUMENTS + size;
            }
        }

        private void readPlain(int brackets) {
            boolean turned = false;
            for (int n = 0; n < MOST_BYTES && takes(WORD_NOT); n++) {
                turned = !turned;
            }
            if (tokens[at] == SIGNS + '(') {
                if (opens(brackets, '(')) {
                    readTest(brackets + 1);
                    closes(')');
                }
            } else {
                readComparison(brackets);
            }
            if (turned) {
                write(Text.NOT, 0);
            }
        }

        private void readComparison(int brackets) {
            readSum(brackets);
            int op = Text.LESS;
            if (takes(SIGNS + '>')) {
                op = Text.MORE;
            } else if (takes(SIGNS + '=')) {
                op = Text.SAME;
            } else if (!takes(SIGNS + '<')) {
                fail();
                return;
            }
            readSum(brackets);
            write(op, 0);
        }

        private boolean opens(int brackets, char sign) {
            if (brackets >= MOST_BRACKETS) {
                fail();
                return false;
            }
            return takes(SIGNS + sign);
        }

        private void closes(char sign) {
            if (!takes(SIGNS + sign)) {
                fail();
            }
        }

        private void readSum(int brackets) {
            readTerm(brackets);
            for (int n = 0; n < MOST_BYTES; n++) {
                boolean plus = takes(SIGNS + '+');
                if (!plus && !takes(SIGNS + '-')) {
                    return;
                }
                readTerm(brackets);
                write(plus ? Text.PLUS : Text.MINUS, 0);
            }
        }

        private void readTerm(int brackets) {
            readPart(brackets);
            for (int n = 0; n < MOST_BYTES; n++) {
                boolean times = takes(SIGNS + '*');
                if (!times && !takes(SIGNS + '/')) {
                    return;
                }
                readPart(brackets);
                write(times ? Text.TIMES : Text.THROUGH, 0);
            }
        }

        private void readPart(int brackets) {
            int token = tokens[at];
            if (token == SIGNS + '[') {
                if (opens(brackets, '[')) {
                    readSum(brackets + 1);
                    closes(']');
                }
                return;
            }
            boolean number = token >= NUMBERS;
            if ((!number && !within(token, FIRST_ASKED, WORD_COUNT - 1)) || parts >= MOST_PARTS || !takes(token)) {
                fail();
                return;
            }
            parts++;
            write(number ? Text.NUMBER : Text.ASKED, number ? token - NUMBERS : token - FIRST_ASKED);
        }
    }

    /** What a HEAP is worth, and a table of all heaps that twelve GIVERS can bring. */
    private static final class Heaps {
        /** Rows of four counts with a sum of at most 12. */
        static final int MOST = 1820;

        private final int[] spare = new int[MOST_THINGS];
        private final int[] lacks = new int[MOST_THINGS];
        private final int[] row = new int[MOST_THINGS];
        int value;
        int doubled;
        int missing;
        int gain;
        int given;
        int gotten;

        private int things = NONE;
        private int priced = NONE;
        /** How many heaps there are with at most so many gifts: smaller heaps have lower numbers. */
        final int[] upTo = new int[MOST_GUESTS + 1];
        private final int[] counts = new int[MOST * MOST_THINGS];
        private final int[] next = new int[MOST * MOST_THINGS];
        private final int[] parent = new int[MOST];
        private final int[] highest = new int[MOST];
        final int[] values = new int[MOST];
        final int[] doubles = new int[MOST];
        final int[] misses = new int[MOST];

        /** VALUE without MONEY, DOUBLED and MISSING of a heap. */
        void weigh(State state, int[] heap) {
            value = 0;
            for (int k = 0; k < state.things; k++) {
                int wanted = state.fact(k, WANTED);
                int used = Math.min(heap[k], wanted);
                value += used * state.fact(k, WORTH);
                spare[k] = heap[k] - used;
                lacks[k] = wanted - used;
            }
            for (int k = 0; k < state.things; k++) {
                makeUp(state, k);
            }
            doubled = 0;
            missing = 0;
            for (int k = 0; k < state.things; k++) {
                value += spare[k] * state.fact(k, EXTRA);
                doubled += spare[k];
                missing += lacks[k];
                for (int other = 0; other < k; other++) {
                    if (heap[k] > 0 && heap[other] > 0) {
                        value += state.bonuses[k * MOST_THINGS + other];
                    }
                }
            }
        }

        private void makeUp(State state, int thing) {
            int by = state.insteadBy[thing];
            if (by < 0 || by >= state.things) {
                return;
            }
            int used = Math.min(lacks[thing], spare[by]);
            value += used * (state.fact(thing, WORTH) * state.insteadHundredths[thing] / 100);
            spare[by] -= used;
            lacks[thing] -= used;
        }

        /** The change of one SPARE gift by which VALUE grows most: gain 0 and NONE, if none makes it more. */
        void findChange(State state, int[] heap, int loss) {
            weigh(state, heap);
            int before = value;
            gain = 0;
            given = NONE;
            gotten = NONE;
            for (int from = 0; from < state.things; from++) {
                int paid = state.fact(from, WORTH) * loss / 100;
                for (int to = 0; to < state.things; to++) {
                    if (heap[from] > state.fact(from, WANTED) && heap[to] < state.fact(to, WANTED)) {
                        tryChange(state, heap, from, to, before + paid);
                    }
                }
            }
        }

        private void tryChange(State state, int[] heap, int from, int to, int before) {
            heap[from]--;
            heap[to]++;
            weigh(state, heap);
            heap[from]++;
            heap[to]--;
            if (value - before > gain) {
                gain = value - before;
                given = from;
                gotten = to;
            }
        }

        /** The number of the heap that a choice makes of a heap: COIN leaves it as it is. */
        int after(int heap, int choice) {
            int cell = heap * MOST_THINGS + choice;
            return choice == COIN || cell < 0 || cell >= next.length ? heap : next[cell];
        }

        /** Fills the table for heaps of at most so many gifts, if it is not that of this version. */
        void price(State state, int givers, int version) {
            if (priced == version) {
                return;
            }
            priced = version;
            shape(state.things);
            for (int heap = 0; heap < upTo[givers]; heap++) {
                System.arraycopy(counts, heap * MOST_THINGS, row, 0, MOST_THINGS);
                weigh(state, row);
                values[heap] = value;
                doubles[heap] = doubled;
                misses[heap] = missing;
            }
        }

        private void shape(int thingCount) {
            if (things == thingCount) {
                return;
            }
            things = thingCount;
            int made = 1;
            int heap = 0;
            upTo[0] = 1;
            for (int gifts = 0; gifts < MOST_GUESTS; gifts++) {
                for (; heap < upTo[gifts]; heap++) {
                    for (int k = 0; k < things; k++) {
                        made = grow(heap, k, made);
                    }
                }
                upTo[gifts + 1] = made;
            }
        }

        /** Each heap is made once: from the one without its last gift of the highest thing. */
        private int grow(int heap, int thing, int made) {
            int cell = heap * MOST_THINGS + thing;
            if (thing < highest[heap]) {
                int beside = next[parent[heap] * MOST_THINGS + thing];
                next[cell] = next[beside * MOST_THINGS + highest[heap]];
                return made;
            }
            if (made >= MOST) {
                return made;
            }
            next[cell] = made;
            parent[made] = heap;
            highest[made] = thing;
            System.arraycopy(counts, heap * MOST_THINGS, counts, made * MOST_THINGS, MOST_THINGS);
            counts[made * MOST_THINGS + thing]++;
            return made + 1;
        }
    }

    /** The GIVERS as they are now: who they are, what they can bring, by what WEIGHTS they choose. */
    private static final class Party {
        int givers;
        final int[] guestAt = new int[MOST_GUESTS];
        final int[] giverAt = new int[MOST_GUESTS];
        final int[] purse = new int[MOST_GUESTS];
        final int[] money = new int[MOST_GUESTS];
        final int[] letter = new int[MOST_GUESTS];
        final int[] fixed = new int[MOST_GUESTS];
        /** A bit for each choice that a GIVER has. */
        final int[] choices = new int[MOST_GUESTS];
        final int[] chances = new int[MOST_GUESTS * CHOICES];
        private final int[] asked = new int[Text.MOST_ASKED];
        private final long[] stack = new long[Text.STACK];
        private int seated = NONE;
        private int chanced = NONE;

        void seat(State state, int version) {
            if (seated == version) {
                return;
            }
            seated = version;
            givers = 0;
            for (int guest = 0; guest < state.guests; guest++) {
                giverAt[guest] = NONE;
                if (state.isGiver(guest)) {
                    seatGiver(state, guest);
                }
            }
        }

        private void seatGiver(State state, int guest) {
            int giver = givers;
            givers = giver + 1;
            giverAt[guest] = giver;
            guestAt[giver] = guest;
            purse[giver] = state.purseOf(guest);
            money[giver] = purse[giver] * state.coinHundredths / 100;
            letter[giver] = state.guestFacts[guest * FACTS + LETTER];
            fixed[giver] = state.alwaysBrings[guest];
            choices[giver] = 1 << COIN;
            for (int k = 0; k < state.things; k++) {
                if (state.fact(k, PRICE) <= purse[giver]) {
                    choices[giver] |= 1 << k;
                }
            }
            if (fixed[giver] != NONE) {
                choices[giver] = 1 << fixed[giver];
            }
        }

        int moneyBy(int giver, int choice) {
            return choice == COIN ? money[giver] : 0;
        }

        boolean canBring(int giver, int choice) {
            return within(choice, 0, COIN) && (choices[giver] >> choice & 1) == 1;
        }

        int weightOf(State state, int giver, int choice, int struck) {
            int weight = clauseWeight(state, giver, choice, struck);
            if (choice != COIN || weight > 0) {
                return weight;
            }
            for (int k = 0; k < state.things; k++) {
                if (clauseWeight(state, giver, k, 0) > 0) {
                    return 0;
                }
            }
            return 1;
        }

        private int clauseWeight(State state, int giver, int choice, int struck) {
            int guest = guestAt[giver];
            int sort = state.guestFacts[guest * FACTS + SORT];
            Text way = state.wayOf(sort);
            if (way == null || (choice != COIN && state.fact(choice, PRICE) > purse[giver])) {
                return 0;
            }
            asked[0] = choice;
            asked[1] = choice == COIN ? 0 : state.fact(choice, WANTED);
            asked[2] = choice == COIN ? 0 : state.fact(choice, WORTH);
            asked[3] = choice == COIN ? 0 : state.fact(choice, PRICE);
            asked[4] = letter[giver];
            asked[5] = state.guestFacts[guest * FACTS + AGE];
            asked[6] = purse[giver];
            asked[7] = sort;
            asked[8] = givers;
            asked[9] = choice == COIN || state.seesList[guest] == 0 ? 0 : struck;
            return way.tells(choice == COIN ? Text.COINS : Text.LIKES, asked, stack);
        }

        /** The WEIGHTS behind the CHANCES, nothing struck: whoever ALWAYS brings a THING has 1 for that alone. */
        void fillChances(State state, int version) {
            if (chanced == version) {
                return;
            }
            chanced = version;
            Arrays.fill(chances, 0);
            for (int giver = 0; giver < givers; giver++) {
                int from = giver * CHOICES;
                if (fixed[giver] != NONE) {
                    chances[from + fixed[giver]] = 1;
                    continue;
                }
                for (int k = 0; k < state.things; k++) {
                    chances[from + k] = clauseWeight(state, giver, k, 0);
                }
                chances[from + COIN] = clauseWeight(state, giver, COIN, 0);
                if (chanceSum(giver) == 0) {
                    chances[from + COIN] = 1;
                }
            }
        }

        int chanceSum(int giver) {
            int sum = 0;
            for (int k = 0; k < CHOICES; k++) {
                sum += chances[giver * CHOICES + k];
            }
            return sum;
        }

        /** The THING that most like best, or NONE; votes then has how many like each. */
        int mostLiked(State state, int[] votes) {
            Arrays.fill(votes, 0);
            for (int giver = 0; giver < givers; giver++) {
                int liked = fixed[giver] == NONE ? likedBest(state, giver) : NONE;
                if (liked != NONE) {
                    votes[liked]++;
                }
            }
            int most = NONE;
            for (int k = 0; k < state.things; k++) {
                if (votes[k] > (most == NONE ? 0 : votes[most])) {
                    most = k;
                }
            }
            return most;
        }

        private int likedBest(State state, int giver) {
            int liked = NONE;
            int greatest = 0;
            for (int k = 0; k < state.things; k++) {
                int weight = clauseWeight(state, giver, k, 0);
                if (weight > greatest) {
                    greatest = weight;
                    liked = k;
                }
            }
            return liked;
        }
    }

    /**
     * The MEAN, exactly: chances are whole numbers over the product of all GIVERS' sums of WEIGHTS, which is at most
     * 5000 to the 12th, below 2 to the 148th. Such numbers are held in limbs of 50 bits, the lowest first.
     */
    private static final class Mean {
        private static final int LIMBS = 4;
        private static final int LIMB_BITS = 50;
        private static final long LIMB = (1L << LIMB_BITS) - 1;
        /** Every answer is below 2 to this. */
        private static final int ANSWER_BITS = 20;

        private final long[] low = new long[Heaps.MOST];
        private final long[] middle = new long[Heaps.MOST];
        private final long[] high = new long[Heaps.MOST];
        private final long[] whole = new long[LIMBS];
        private final long[] money = new long[LIMBS];
        private final long[] sum = new long[LIMBS];
        private final long[] divisor = new long[LIMBS];
        final int[] means = new int[3];
        private int worked = NONE;

        void work(Party party, Heaps heaps, int version) {
            if (worked == version) {
                return;
            }
            worked = version;
            int size = heaps.upTo[party.givers];
            Arrays.fill(low, 0, size, 0L);
            Arrays.fill(middle, 0, size, 0L);
            Arrays.fill(high, 0, size, 0L);
            low[0] = 1;
            set(whole, 1);
            set(money, 0);
            for (int giver = 0; giver < party.givers; giver++) {
                addMoney(party, giver);
                addGifts(party, heaps, giver);
                carryAll(heaps.upTo[giver + 1]);
            }
            means[0] = meanOf(heaps.values, size, money);
            set(money, 0);
            means[1] = meanOf(heaps.doubles, size, money);
            means[2] = meanOf(heaps.misses, size, money);
        }

        private void addMoney(Party party, int giver) {
            int all = party.chanceSum(giver);
            System.arraycopy(whole, 0, sum, 0, LIMBS);
            multiply(sum, party.chances[giver * CHOICES + COIN]);
            multiply(sum, party.money[giver]);
            multiply(money, all);
            add(money, sum);
            multiply(whole, all);
        }

        /** Goes down, so that each heap's own number is used before what is added to it. */
        private void addGifts(Party party, Heaps heaps, int giver) {
            int from = giver * CHOICES;
            for (int heap = heaps.upTo[giver] - 1; heap >= 0; heap--) {
                long l = low[heap];
                long m = middle[heap];
                long h = high[heap];
                if ((l | m | h) == 0) {
                    continue;
                }
                long weight = party.chances[from + COIN];
                low[heap] = l * weight;
                middle[heap] = m * weight;
                high[heap] = h * weight;
                for (int k = 0; k < COIN; k++) {
                    weight = party.chances[from + k];
                    if (weight > 0) {
                        int more = heaps.after(heap, k);
                        // Five of these stay below 5000 times 2 to the 50th, which a long holds.
                        low[more] += l * weight;
                        middle[more] += m * weight;
                        high[more] += h * weight;
                    }
                }
            }
        }

        private void carryAll(int size) {
            for (int heap = 0; heap < size; heap++) {
                middle[heap] += low[heap] >> LIMB_BITS;
                low[heap] &= LIMB;
                high[heap] += middle[heap] >> LIMB_BITS;
                middle[heap] &= LIMB;
            }
        }

        private int meanOf(int[] worths, int size, long[] beside) {
            set(sum, 0);
            for (int heap = 0; heap < size; heap++) {
                long worth = worths[heap];
                if (worth > 0 && (low[heap] | middle[heap] | high[heap]) != 0) {
                    sum[0] += low[heap] * worth;
                    sum[1] += middle[heap] * worth;
                    sum[2] += high[heap] * worth;
                    carry(sum);
                }
            }
            add(sum, beside);
            multiply(sum, 100);
            return quotient();
        }

        /** The chance in millionths that nobody brings a THING. */
        int lacking(Party party, int thing) {
            set(sum, 1);
            set(whole, 1);
            for (int giver = 0; giver < party.givers; giver++) {
                int all = party.chanceSum(giver);
                multiply(sum, all - party.chances[giver * CHOICES + thing]);
                multiply(whole, all);
            }
            multiply(sum, 1000);
            multiply(sum, 1000);
            return quotient();
        }

        /** How often whole goes into sum, cut. */
        private int quotient() {
            System.arraycopy(whole, 0, divisor, 0, LIMBS);
            for (int bit = 0; bit < ANSWER_BITS; bit++) {
                multiply(divisor, 2);
            }
            int answer = 0;
            for (int bit = ANSWER_BITS; bit >= 0; bit--) {
                if (!below(sum, divisor)) {
                    subtract(sum, divisor);
                    answer |= 1 << bit;
                }
                halve(divisor);
            }
            return answer;
        }

        private static void set(long[] number, long to) {
            Arrays.fill(number, 0L);
            number[0] = to;
        }

        private static void carry(long[] number) {
            for (int k = 0; k < LIMBS - 1; k++) {
                number[k + 1] += number[k] >> LIMB_BITS;
                number[k] &= LIMB;
            }
        }

        private static void multiply(long[] number, int by) {
            for (int k = 0; k < LIMBS; k++) {
                number[k] *= by;
            }
            carry(number);
        }

        private static void add(long[] number, long[] other) {
            for (int k = 0; k < LIMBS; k++) {
                number[k] += other[k];
            }
            carry(number);
        }

        private static void subtract(long[] number, long[] other) {
            for (int k = 0; k < LIMBS; k++) {
                number[k] -= other[k];
            }
            carry(number);
        }

        private static void halve(long[] number) {
            for (int k = 0; k < LIMBS; k++) {
                long above = k + 1 < LIMBS ? number[k + 1] & 1 : 0;
                number[k] = (number[k] >> 1) + (above << (LIMB_BITS - 1));
            }
        }

        private static boolean below(long[] number, long[] other) {
            for (int k = LIMBS - 1; k >= 0; k--) {
                if (number[k] != other[k]) {
                    return number[k] < other[k];
                }
            }
            return false;
        }
    }

    /**
     * TOGETHER: for each GIVER and each heap that those ahead of it can have brought, the greatest VALUE that can still
     * come of it, and in how many ways.
     */
    private static final class Together {
        /** All heaps of the layers of 0 to 12 GIVERS. */
        private static final int MOST_CELLS = 6188;

        private final int[] best = new int[MOST_CELLS];
        private final int[] start = new int[MOST_GUESTS + 1];
        private final int[] ways = new int[Heaps.MOST];
        private final int[] trial = new int[Heaps.MOST];
        final int[] firsts = new int[MOST_GUESTS];
        int doubled;
        int missing;
        private int worked = NONE;

        void work(Party party, Heaps heaps, int version) {
            if (worked == version) {
                return;
            }
            worked = version;
            int givers = party.givers;
            start[0] = 0;
            for (int layer = 0; layer < givers; layer++) {
                start[layer + 1] = start[layer] + heaps.upTo[layer];
            }
            System.arraycopy(heaps.values, 0, best, start[givers], heaps.upTo[givers]);
            Arrays.fill(ways, 0, heaps.upTo[givers], 1);
            for (int giver = givers - 1; giver >= 0; giver--) {
                workLayer(party, heaps, giver);
            }
            walkFirst(party, heaps);
        }

        int greatest() {
            return best[0];
        }

        /** Twelve GIVERS have at most 5 to the 12th ways, which is below the document's greatest number. */
        int countedWays() {
            return ways[0];
        }

        private int valueAfter(Party party, Heaps heaps, int giver, int heap, int choice) {
            return best[start[giver + 1] + heaps.after(heap, choice)] + party.moneyBy(giver, choice);
        }

        /** Goes up, so that ways still tells those of the next layer for this heap and all greater ones. */
        private void workLayer(Party party, Heaps heaps, int giver) {
            int layer = start[giver + 1];
            for (int heap = 0; heap < heaps.upTo[giver]; heap++) {
                int top = NONE;
                int found = 0;
                for (int choice = 0; choice < CHOICES; choice++) {
                    if ((party.choices[giver] >> choice & 1) == 0) {
                        continue;
                    }
                    int to = heaps.after(heap, choice);
                    int value = best[layer + to] + party.moneyBy(giver, choice);
                    if (value > top) {
                        top = value;
                        found = ways[to];
                    } else if (value == top) {
                        found += ways[to];
                    }
                }
                best[start[giver] + heap] = top;
                ways[heap] = found;
            }
        }

        private void walkFirst(Party party, Heaps heaps) {
            int heap = 0;
            for (int giver = 0; giver < party.givers; giver++) {
                int choice = 0;
                while (choice < COIN && (!party.canBring(giver, choice)
                        || valueAfter(party, heaps, giver, heap, choice) != best[start[giver] + heap])) {
                    choice++;
                }
                firsts[giver] = choice;
                heap = heaps.after(heap, choice);
            }
            doubled = heaps.doubles[heap];
            missing = heaps.misses[heap];
        }

        /** How much less VALUE is at best if a GIVER brings this; the GIVERS behind it are in the layers already. */
        int lessWith(Party party, Heaps heaps, int giver, int choice) {
            for (int heap = 0; heap < heaps.upTo[giver]; heap++) {
                trial[heap] = valueAfter(party, heaps, giver, heap, choice);
            }
            for (int ahead = giver - 1; ahead >= 0; ahead--) {
                tryLayer(party, heaps, ahead);
            }
            return best[0] - trial[0];
        }

        private void tryLayer(Party party, Heaps heaps, int giver) {
            for (int heap = 0; heap < heaps.upTo[giver]; heap++) {
                int top = NONE;
                for (int choice = 0; choice < CHOICES; choice++) {
                    if ((party.choices[giver] >> choice & 1) == 1) {
                        top = Math.max(top, trial[heaps.after(heap, choice)] + party.moneyBy(giver, choice));
                    }
                }
                trial[heap] = top;
            }
        }
    }

    /**
     * BLIND: the MEAN as a polynomial in the tenths of the THINGS and of COIN. Level k has its numbers with the tenths
     * of the first k THINGS put in: for each monomial of what is left, those of THING k ahead of it by rising powers.
     */
    private static final class Blind {
        static final int MOST_GIVERS = 8;
        /** Monomials of four kinds of at most the 8th degree. */
        private static final int MOST = 495;
        private static final int ALL_TENTHS = 10;
        private static final int POWER_BITS = 4;
        private static final int DEGREE_SHIFT = 24;

        private final long[] counted = new long[MOST];
        private final long[][] levels = new long[MOST_THINGS + 1][MOST];
        /** The powers of each monomial, POWER_BITS for each choice, and its degree above them. */
        private final int[][] powers = new int[MOST_THINGS + 1][MOST];
        private final int[] sizes = new int[MOST_THINGS + 1];
        private final int[] heap = new int[MOST_THINGS];
        private final int[] row = new int[CHOICES];
        private final int[] bestRow = new int[CHOICES];
        private long best;
        private int things;
        private int givers;
        private int worked = NONE;
        int hundredths;

        void work(State state, Heaps heaps, int m, int version) {
            if (worked == version && givers == m) {
                return;
            }
            worked = version;
            givers = m;
            things = state.things;
            shapeLevels();
            countHeaps(state, heaps);
            best = NONE;
            spread(0, ALL_TENTHS);
            long all = 1;
            for (int k = 0; k < m; k++) {
                all *= ALL_TENTHS;
            }
            hundredths = (int) (best * 100 / all);
        }

        int tenthsOf(int choice, int thingCount) {
            return choice == COIN ? bestRow[thingCount] : bestRow[choice];
        }

        /** Level by level from the last, where COIN's powers alone are left. */
        private void shapeLevels() {
            sizes[things] = givers + 1;
            for (int power = 0; power <= givers; power++) {
                powers[things][power] = monomial(0, things, power);
            }
            for (int level = things - 1; level >= 1; level--) {
                int size = 0;
                for (int k = 0; k < sizes[level + 1]; k++) {
                    int left = givers - degree(powers[level + 1][k]);
                    for (int power = 0; power <= left && size < MOST; power++) {
                        powers[level][size] = monomial(powers[level + 1][k], level, power);
                        size++;
                    }
                }
                sizes[level] = size;
            }
        }

        private static int monomial(int of, int choice, int power) {
            return of + (power << choice * POWER_BITS) + (power << DEGREE_SHIFT);
        }

        private static int degree(int monomial) {
            return monomial >> DEGREE_SHIFT;
        }

        private static int powerOf(int monomial, int choice) {
            return monomial >> choice * POWER_BITS & 15;
        }

        /** Each heap's VALUE times the number of orders in which the GIVERS can bring it. */
        private void countHeaps(State state, Heaps heaps) {
            for (int k = 0; k < sizes[1]; k++) {
                int monomial = powers[1][k];
                heap[0] = givers - degree(monomial);
                long orders = factorial(givers) / factorial(heap[0]) / factorial(powerOf(monomial, things));
                for (int thing = 1; thing < things; thing++) {
                    heap[thing] = powerOf(monomial, thing);
                    orders /= factorial(heap[thing]);
                }
                heaps.weigh(state, heap);
                counted[k] = orders * heaps.value;
            }
        }

        private static long factorial(int n) {
            long product = 1;
            for (int k = 2; k <= n; k++) {
                product *= k;
            }
            return product;
        }

        /** Tries all tenths of a THING and of those behind it, greater ones first: of alike rows the first wins. */
        private void spread(int thing, int left) {
            for (int tenths = left; tenths >= 0; tenths--) {
                row[thing] = tenths;
                if (thing == 0) {
                    putFirst(tenths);
                } else {
                    putIn(thing, tenths);
                }
                if (thing + 1 < things) {
                    spread(thing + 1, left - tenths);
                } else {
                    compare(left - tenths);
                }
            }
        }

        private void putFirst(int tenths) {
            for (int k = 0; k < sizes[1]; k++) {
                long number = counted[k];
                for (int power = givers - degree(powers[1][k]); power > 0; power--) {
                    number *= tenths;
                }
                levels[1][k] = number;
            }
        }

        private void putIn(int thing, int tenths) {
            int from = 0;
            for (int k = 0; k < sizes[thing + 1]; k++) {
                int left = givers - degree(powers[thing + 1][k]);
                long number = 0;
                for (int power = left; power >= 0; power--) {
                    number = number * tenths + levels[thing][from + power];
                }
                levels[thing + 1][k] = number;
                from += left + 1;
            }
        }

        private void compare(int coinTenths) {
            long number = 0;
            for (int power = givers; power >= 0; power--) {
                number = number * coinTenths + levels[things][power];
            }
            if (number > best) {
                best = number;
                row[things] = coinTenths;
                System.arraycopy(row, 0, bestRow, 0, CHOICES);
            }
        }
    }

    /** What comes without a word: the RULE by letters, and REST. */
    private static final class Quiet {
        private static final int MOST_BOUNDS = 27;
        /** VALUE grows with each move and stays below this. */
        private static final int MOST_ROUNDS = 10000;

        private final int[] heap = new int[MOST_THINGS];
        private final int[] candidates = new int[MOST_BOUNDS];
        private int candidateCount;
        private final int[] bounds = new int[MOST_THINGS];
        final int[] bestBounds = new int[MOST_THINGS];
        int ruleValue;
        private int ruled = NONE;

        final int[] restBrings = new int[MOST_GUESTS];
        private int restMoney;
        int restValue;
        int restDoubled;
        int restMissing;
        int rounds;
        private int settled = NONE;

        private static int choiceBy(Party party, int giver, int[] bounds, int things) {
            if (party.fixed[giver] != NONE) {
                return party.fixed[giver];
            }
            for (int k = 0; k < things; k++) {
                if (party.letter[giver] < bounds[k]) {
                    return party.canBring(giver, k) ? k : COIN;
                }
            }
            return COIN;
        }

        int valueBy(State state, Party party, Heaps heaps, int[] rule) {
            Arrays.fill(heap, 0);
            int money = 0;
            for (int giver = 0; giver < party.givers; giver++) {
                int choice = choiceBy(party, giver, rule, state.things);
                if (choice == COIN) {
                    money += party.money[giver];
                } else {
                    heap[choice]++;
                }
            }
            heaps.weigh(state, heap);
            return heaps.value + money;
        }

        void findRule(Party party, Heaps heaps, int version) {
            if (ruled == version) {
                return;
            }
            ruled = version;
            gatherCandidates(party);
            ruleValue = NONE;
            tryBounds(party, heaps, 0, 0);
        }

        /** The first of alike bounds stand at 0 or right behind a letter that a GIVER has. */
        private void gatherCandidates(Party party) {
            candidates[0] = 0;
            candidateCount = 1;
            for (int bound = 1; bound < MOST_BOUNDS; bound++) {
                boolean had = false;
                for (int giver = 0; giver < party.givers; giver++) {
                    had = had || party.letter[giver] == bound - 1;
                }
                if (had) {
                    candidates[candidateCount] = bound;
                    candidateCount++;
                }
            }
        }

        private void tryBounds(Party party, Heaps heaps, int thing, int from) {
            for (int k = from; k < candidateCount; k++) {
                bounds[thing] = candidates[k];
                if (thing + 1 < heaps.things) {
                    tryBounds(party, heaps, thing + 1, k);
                } else {
                    tryRule(party, heaps);
                }
            }
        }

        private void tryRule(Party party, Heaps heaps) {
            int brought = 0;
            int money = 0;
            for (int giver = 0; giver < party.givers; giver++) {
                int choice = choiceBy(party, giver, bounds, heaps.things);
                brought = heaps.after(brought, choice);
                money += party.moneyBy(giver, choice);
            }
            if (heaps.values[brought] + money > ruleValue) {
                ruleValue = heaps.values[brought] + money;
                System.arraycopy(bounds, 0, bestBounds, 0, MOST_THINGS);
            }
        }

        void settle(State state, Party party, Heaps heaps, int version) {
            if (settled == version) {
                return;
            }
            settled = version;
            Arrays.fill(heap, 0);
            restMoney = 0;
            for (int giver = 0; giver < party.givers; giver++) {
                restBrings[giver] = party.fixed[giver] == NONE ? COIN : party.fixed[giver];
                lay(party, giver, restBrings[giver], 1);
            }
            rounds = 0;
            boolean moved = true;
            while (moved && rounds < MOST_ROUNDS) {
                moved = goRound(state, party, heaps);
                rounds++;
            }
            restValue = valueNow(state, heaps);
            restDoubled = heaps.doubled;
            restMissing = heaps.missing;
        }

        private void lay(Party party, int giver, int choice, int many) {
            if (choice == COIN) {
                restMoney += many * party.money[giver];
            } else {
                heap[choice] += many;
            }
        }

        private int valueNow(State state, Heaps heaps) {
            heaps.weigh(state, heap);
            return heaps.value + restMoney;
        }

        private boolean goRound(State state, Party party, Heaps heaps) {
            boolean moved = false;
            for (int giver = 0; giver < party.givers; giver++) {
                int had = restBrings[giver];
                int top = had;
                int greatest = valueNow(state, heaps);
                lay(party, giver, had, -1);
                for (int choice = 0; choice < CHOICES; choice++) {
                    if (party.canBring(giver, choice)) {
                        lay(party, giver, choice, 1);
                        int value = valueNow(state, heaps);
                        lay(party, giver, choice, -1);
                        if (value > greatest) {
                            greatest = value;
                            top = choice;
                        }
                    }
                }
                lay(party, giver, top, 1);
                restBrings[giver] = top;
                moved = moved || top != had;
            }
            return moved;
        }
    }

    /** A WEDDING as it came by its DRAWS. */
    private static final class Wedding {
        private static final int TIMES = 1103;
        private static final int MORE = 12345;
        private static final int MODULUS = 1000003;

        boolean held;
        int value;
        /** The latest DRAW's s, from which another WEDDING can go on. */
        int drawn;
        /** How many of each THING, and the MONEY. */
        final int[] heap = new int[CHOICES];
        final int[] broughtBy = new int[MOST_GUESTS];
        private final int[] struck = new int[MOST_THINGS];

        void hold(State state, Party party, Heaps heaps, int seed) {
            held = true;
            drawn = seed;
            Arrays.fill(heap, 0);
            Arrays.fill(broughtBy, NONE);
            Arrays.fill(struck, 0);
            for (int giver = 0; giver < party.givers; giver++) {
                int guest = party.guestAt[giver];
                boolean sees = state.seesList[guest] == 1;
                int choice = choose(state, party, heaps, giver, sees);
                broughtBy[guest] = choice;
                heap[choice] += choice == COIN ? party.money[giver] : 1;
                if (sees && choice != COIN) {
                    struck[choice]++;
                }
            }
            heaps.weigh(state, heap);
            value = heaps.value + heap[COIN];
        }

        private int choose(State state, Party party, Heaps heaps, int giver, boolean sees) {
            if (party.fixed[giver] != NONE) {
                return party.fixed[giver];
            }
            return sees ? bestByList(state, party, heaps, giver) : drawnChoice(party, giver);
        }

        private int bestByList(State state, Party party, Heaps heaps, int giver) {
            int top = COIN;
            int greatest = NONE;
            for (int k = 0; k < state.things; k++) {
                if (party.canBring(giver, k)) {
                    struck[k]++;
                    heaps.weigh(state, struck);
                    struck[k]--;
                    if (heaps.value > greatest) {
                        greatest = heaps.value;
                        top = k;
                    }
                }
            }
            heaps.weigh(state, struck);
            return heaps.value + party.money[giver] > greatest ? COIN : top;
        }

        private int drawnChoice(Party party, int giver) {
            drawn = (int) (((long) drawn * TIMES + MORE) % MODULUS);
            int sum = party.chanceSum(giver);
            int draw = sum > 0 ? drawn % sum : 0;
            int reached = 0;
            for (int choice = 0; choice < COIN; choice++) {
                reached += party.chances[giver * CHOICES + choice];
                if (draw < reached) {
                    return choice;
                }
            }
            return COIN;
        }
    }
}
