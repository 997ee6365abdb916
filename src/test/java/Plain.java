import java.math.BigInteger;
import java.util.ArrayList;
import java.util.HashMap;
import java.util.List;
import java.util.Map;

/**
 * The document once more, as plainly as it can be written and with no thought of speed: the tests ask it beside
 * GiftTable and compare. It goes through all choices one by one where GiftTable has tables.
 */
final class Plain {
    static final int NONE = -1;

    static final class Thing implements Cloneable {
        int wanted, worth, extra, price, instead = NONE, hundredths;
        int[] bonus = new int[4];

        Thing copy() {
            Thing t = new Thing();
            t.wanted = wanted;
            t.worth = worth;
            t.extra = extra;
            t.price = price;
            t.instead = instead;
            t.hundredths = hundredths;
            t.bonus = bonus.clone();
            return t;
        }
    }

    static final class Guest {
        int letter, age, purse, sort, always = NONE, sees, with = NONE;

        Guest copy() {
            Guest g = new Guest();
            g.letter = letter;
            g.age = age;
            g.purse = purse;
            g.sort = sort;
            g.always = always;
            g.sees = sees;
            g.with = with;
            return g;
        }
    }

    static final class World {
        List<Thing> things = new ArrayList<>();
        List<Guest> guests = new ArrayList<>();
        List<String> texts = new ArrayList<>();
        int[] ways = {NONE, NONE, NONE, NONE, NONE, NONE};
        int coin = 50;

        World copy() {
            World w = new World();
            for (Thing t : things) {
                w.things.add(t.copy());
            }
            for (Guest g : guests) {
                w.guests.add(g.copy());
            }
            w.texts.addAll(texts);
            w.ways = ways.clone();
            w.coin = coin;
            return w;
        }
    }

    static final class Fault extends Exception {
        private static final long serialVersionUID = 1L;
        final int place;

        Fault(int place) {
            this.place = place;
        }
    }

    static final class Broken extends Exception {
        private static final long serialVersionUID = 1L;
    }

    World w = new World();
    final World[] images = new World[2];
    StringBuilder tape = new StringBuilder();
    int fault = NONE, late, status;
    final int[] refused = new int[10];
    int[] had;
    int[] brought;

    // ---- answers of the calls that can be REFUSED

    int no(int by) {
        status = by;
        refused[-by]++;
        return by;
    }

    int yes(int answer) {
        status = 0;
        return answer;
    }

    static boolean in(int x, int a, int b) {
        return a <= x && x <= b;
    }

    boolean isThing(int t) {
        return in(t, 0, w.things.size() - 1);
    }

    boolean isGuest(int g) {
        return in(g, 0, w.guests.size() - 1);
    }

    int thing(int wanted, int worth, int extra, int price) {
        if (!in(wanted, 0, 9) || !in(worth, 0, 99) || !in(extra, 0, 99) || !in(price, 1, 200)) {
            return no(-1);
        }
        if (w.things.size() == 4) {
            return no(-5);
        }
        Thing t = new Thing();
        t.wanted = wanted;
        t.worth = worth;
        t.extra = extra;
        t.price = price;
        w.things.add(t);
        return yes(w.things.size() - 1);
    }

    int put(int thing, int what, int value) {
        if (!in(what, 0, 3) || !in(value, what == 3 ? 1 : 0, what == 0 ? 9 : what == 3 ? 200 : 99)) {
            return no(-1);
        }
        if (!isThing(thing)) {
            return no(-2);
        }
        Thing t = w.things.get(thing);
        int was;
        if (what == 0) {
            was = t.wanted;
            t.wanted = value;
        } else if (what == 1) {
            was = t.worth;
            t.worth = value;
        } else if (what == 2) {
            was = t.extra;
            t.extra = value;
        } else {
            was = t.price;
            t.price = value;
        }
        return yes(was);
    }

    int instead(int thing, int other, int hundredths) {
        if (!in(hundredths, 0, 100) || other == NONE && hundredths != 0) {
            return no(-1);
        }
        if (!isThing(thing) || other != NONE && !isThing(other) || thing == other) {
            return no(-2);
        }
        w.things.get(thing).instead = other;
        w.things.get(thing).hundredths = hundredths;
        return yes(0);
    }

    int bonus(int one, int other, int bonus) {
        if (!in(bonus, 0, 200)) {
            return no(-1);
        }
        if (!isThing(one) || !isThing(other) || one == other) {
            return no(-2);
        }
        int was = w.things.get(one).bonus[other];
        w.things.get(one).bonus[other] = bonus;
        w.things.get(other).bonus[one] = bonus;
        return yes(was);
    }

    static boolean guestFits(int letter, int age, int purse, int sort) {
        return in(letter, 0, 25) && in(age, 0, 99) && in(purse, 0, 200) && in(sort, 0, 5);
    }

    int guest(int letter, int age, int purse, int sort) {
        if (!guestFits(letter, age, purse, sort)) {
            return no(-1);
        }
        if (w.guests.size() == 12) {
            return no(-5);
        }
        return yes(add(letter, age, purse, sort));
    }

    private int add(int letter, int age, int purse, int sort) {
        Guest g = new Guest();
        g.letter = letter;
        g.age = age;
        g.purse = purse;
        g.sort = sort;
        w.guests.add(g);
        return w.guests.size() - 1;
    }

    int always(int guest, int thing) {
        if (!isGuest(guest) || thing != NONE && !isThing(thing)) {
            return no(-2);
        }
        int was = w.guests.get(guest).always;
        w.guests.get(guest).always = thing;
        return yes(was);
    }

    int sees(int guest, int sees) {
        if (!in(sees, 0, 1)) {
            return no(-1);
        }
        if (!isGuest(guest)) {
            return no(-2);
        }
        int was = w.guests.get(guest).sees;
        w.guests.get(guest).sees = sees;
        return yes(was);
    }

    int pair(int guest, int other) {
        if (!isGuest(guest) || other != NONE && !isGuest(other)) {
            return no(-2);
        }
        Guest g = w.guests.get(guest);
        if (other == NONE) {
            if (g.with != NONE) {
                w.guests.get(g.with).with = NONE;
                g.with = NONE;
            }
            return yes(0);
        }
        Guest o = w.guests.get(other);
        if (guest == other || g.with != NONE && g.with != other || o.with != NONE && o.with != guest) {
            return no(-3);
        }
        g.with = other;
        o.with = guest;
        return yes(0);
    }

    int coin(int hundredths) {
        if (!in(hundredths, 0, 100)) {
            return no(-1);
        }
        int was = w.coin;
        w.coin = hundredths;
        return yes(was);
    }

    int of(int guest, int what) {
        if (!isGuest(guest) || !in(what, 0, 8)) {
            return -1000;
        }
        Guest g = w.guests.get(guest);
        int[] all = {g.letter, g.age, g.purse, g.sort, g.always, g.sees, g.with, giver(guest) ? 1 : 0,
            giver(guest) ? pays(guest) : 0};
        return all[what];
    }

    int feed(int a, int b, int c, int d, int e) {
        if (tape.length() > 380) {
            return NONE;
        }
        for (int x : new int[] {a, b, c, d, e}) {
            tape.append((char) (x >>> 24)).append((char) (x >> 16 & 255)).append((char) (x >> 8 & 255))
                .append((char) (x & 255));
        }
        return tape.length();
    }

    int end(int n) {
        if (n < 0 || n > tape.length()) {
            return NONE;
        }
        tape.setLength(n);
        return n;
    }

    int row() {
        if (tape.length() == 0) {
            return no(-6);
        }
        String s = tape.toString();
        tape.setLength(0);
        late = 0;
        int came = 0;
        while (!s.isEmpty()) {
            if (s.length() < 4) {
                late++;
                break;
            }
            if (guestFits(s.charAt(0), s.charAt(1), s.charAt(2), s.charAt(3)) && w.guests.size() < 12) {
                add(s.charAt(0), s.charAt(1), s.charAt(2), s.charAt(3));
                came++;
            } else {
                late++;
            }
            s = s.substring(4);
        }
        return yes(came);
    }

    int late() {
        return late;
    }

    int text() {
        String s = tape.toString();
        tape.setLength(0);
        if (w.texts.size() == 6) {
            return no(-5);
        }
        fault = NONE;
        try {
            new Grammar(s, null).clauses(null);
        } catch (Fault f) {
            fault = f.place;
            return no(-6);
        } catch (Broken b) {
            throw new IllegalStateException(b);
        }
        w.texts.add(s);
        return yes(w.texts.size() - 1);
    }

    int fault() {
        return fault;
    }

    int way(int sort, int text) {
        if (!in(sort, 0, 5)) {
            return no(-1);
        }
        if (text != NONE && !in(text, 0, w.texts.size() - 1)) {
            return no(-2);
        }
        int was = w.ways[sort];
        w.ways[sort] = text;
        return yes(was);
    }

    // ---- the language: one walk over the text both reads and asks

    /** Without names it only reads; with them it also reckons. A skipped part is read without being reckoned. */
    static final class Grammar {
        final List<String> tokens = new ArrayList<>();
        final List<Integer> places = new ArrayList<>();
        final Map<String, Integer> names;
        final int length;
        int at;
        int parts;
        int open;
        boolean skipping;

        Grammar(String s, Map<String, Integer> names) {
            this.names = names;
            skipping = names == null;
            length = s.length();
            java.util.regex.Matcher m =
                java.util.regex.Pattern.compile("[a-z]+|[0-9]+|[^ ]", java.util.regex.Pattern.DOTALL).matcher(s);
            while (m.find()) {
                tokens.add(m.group());
                places.add(m.start());
            }
        }

        String peek() {
            return at < tokens.size() ? tokens.get(at) : "";
        }

        boolean take(String t) {
            if (peek().equals(t)) {
                at++;
                return true;
            }
            return false;
        }

        Fault bad() {
            return new Fault(at < tokens.size() ? places.get(at) : length);
        }

        /** What the last clause of that word that HOLDS tells; null without. */
        Long clauses(String word) throws Fault, Broken {
            Long told = null;
            for (int n = 1;; n++) {
                if (n > 12) {
                    throw bad();
                }
                String kind = peek();
                if (!take("likes") && !take("coin")) {
                    throw bad();
                }
                Long sum = null;
                int from = at;
                boolean outer = skipping;
                try {
                    sum = sum();
                } catch (Broken b) {
                    at = from;
                    skipping = true;
                    sum();
                    skipping = outer;
                    sum = null;
                }
                boolean so = true;
                if (take("if")) {
                    from = at;
                    try {
                        so = test();
                    } catch (Broken b) {
                        at = from;
                        open = 0;
                        skipping = true;
                        test();
                        skipping = outer;
                        so = false;
                    }
                }
                if (so && sum != null && kind.equals(word)) {
                    told = sum;
                }
                if (at == tokens.size()) {
                    return told;
                }
                if (!take(";")) {
                    throw bad();
                }
            }
        }

        boolean test() throws Fault, Broken {
            boolean so = both();
            while (take("or")) {
                boolean outer = skipping;
                skipping |= so;
                boolean right = both();
                skipping = outer;
                so = so || right;
            }
            return so;
        }

        boolean both() throws Fault, Broken {
            boolean so = plain();
            while (take("and")) {
                boolean outer = skipping;
                skipping |= !so;
                boolean right = plain();
                skipping = outer;
                so = so && right;
            }
            return so;
        }

        void open(String t) throws Fault {
            if (open == 8) {
                throw bad();
            }
            take(t);
            open++;
        }

        void close(String t) throws Fault {
            if (!take(t)) {
                throw bad();
            }
            open--;
        }

        boolean plain() throws Fault, Broken {
            if (take("not")) {
                return !plain();
            }
            if (peek().equals("(")) {
                open("(");
                boolean so = test();
                close(")");
                return so;
            }
            long left = sum();
            String op = peek();
            if (!take("<") && !take(">") && !take("=")) {
                throw bad();
            }
            long right = sum();
            return op.equals("<") ? left < right : op.equals(">") ? left > right : left == right;
        }

        long check(long x) throws Broken {
            if (!skipping && Math.abs(x) > 1000000000L) {
                throw new Broken();
            }
            return skipping ? 1 : x;
        }

        long sum() throws Fault, Broken {
            long x = term();
            for (;;) {
                if (take("+")) {
                    x = check(x + term());
                } else if (take("-")) {
                    x = check(x - term());
                } else {
                    return x;
                }
            }
        }

        long term() throws Fault, Broken {
            long x = part();
            for (;;) {
                if (take("*")) {
                    x = check(x * part());
                } else if (take("/")) {
                    long y = part();
                    if (!skipping && y == 0) {
                        throw new Broken();
                    }
                    x = skipping ? 1 : x / y;
                } else {
                    return x;
                }
            }
        }

        long part() throws Fault, Broken {
            String t = peek();
            if (t.equals("[")) {
                open("[");
                long x = sum();
                close("]");
                return x;
            }
            boolean word = List.of("thing", "wanted", "worth", "price", "letter", "age", "purse", "sort", "givers",
                "struck").contains(t);
            boolean number = t.matches("[0-9]+") && new BigInteger(t).compareTo(BigInteger.valueOf(1000)) <= 0;
            // Reckoning walks some parts twice, so parts are counted where the text is read alone.
            if (!word && !number || names == null && parts == 50) {
                throw bad();
            }
            at++;
            parts++;
            return skipping ? 1 : number ? Long.parseLong(new BigInteger(t).toString()) : names.get(t);
        }
    }

    // ---- givers and weights

    boolean giver(int guest) {
        int with = w.guests.get(guest).with;
        return with == NONE || guest < with;
    }

    int pays(int giver) {
        Guest g = w.guests.get(giver);
        return g.purse + (g.with == NONE ? 0 : w.guests.get(g.with).purse);
    }

    List<Integer> givers() {
        List<Integer> all = new ArrayList<>();
        for (int g = 0; g < w.guests.size(); g++) {
            if (giver(g)) {
                all.add(g);
            }
        }
        return all;
    }

    int money(int giver) {
        return pays(giver) * w.coin / 100;
    }

    /** Choices that a GIVER has, THINGS in order, COIN last. */
    List<Integer> can(int giver) {
        int always = w.guests.get(giver).always;
        if (always != NONE) {
            return List.of(always);
        }
        List<Integer> all = new ArrayList<>();
        for (int t = 0; t < w.things.size(); t++) {
            if (w.things.get(t).price <= pays(giver)) {
                all.add(t);
            }
        }
        all.add(4);
        return all;
    }

    int clauseWeight(int giver, int choice, int struck) {
        Guest g = w.guests.get(giver);
        if (w.ways[g.sort] == NONE || choice < 4 && w.things.get(choice).price > pays(giver)) {
            return 0;
        }
        Map<String, Integer> names = new HashMap<>();
        names.put("thing", choice);
        names.put("wanted", choice == 4 ? 0 : w.things.get(choice).wanted);
        names.put("worth", choice == 4 ? 0 : w.things.get(choice).worth);
        names.put("price", choice == 4 ? 0 : w.things.get(choice).price);
        names.put("letter", g.letter);
        names.put("age", g.age);
        names.put("purse", pays(giver));
        names.put("sort", g.sort);
        names.put("givers", givers().size());
        names.put("struck", choice == 4 || g.sees == 0 ? 0 : struck);
        try {
            Long told = new Grammar(w.texts.get(w.ways[g.sort]), names).clauses(choice == 4 ? "coin" : "likes");
            return told == null ? 0 : (int) Math.max(0, Math.min(1000, told));
        } catch (Fault | Broken e) {
            throw new IllegalStateException(e);
        }
    }

    int[] weights(int giver) {
        int[] all = new int[5];
        int sum = 0;
        for (int t = 0; t < w.things.size(); t++) {
            sum += all[t] = clauseWeight(giver, t, 0);
        }
        sum += all[4] = clauseWeight(giver, 4, 0);
        if (sum == 0) {
            all[4] = 1;
        }
        return all;
    }

    int[] chances(int giver) {
        int always = w.guests.get(giver).always;
        if (always == NONE) {
            return weights(giver);
        }
        int[] all = new int[5];
        all[always] = 1;
        return all;
    }

    int weight(int guest, int choice, int struck) {
        if (!isGuest(guest) || !giver(guest) || choice != 4 && !isThing(choice) || !in(struck, 0, 12)) {
            return NONE;
        }
        return choice == 4 ? weights(guest)[4] : clauseWeight(guest, choice, struck);
    }

    // ---- heaps

    /** VALUE, DOUBLED, MISSING. */
    int[] weigh(int[] heap, int money) {
        int n = w.things.size();
        int[] spare = new int[n];
        int[] lack = new int[n];
        int value = money;
        for (int t = 0; t < n; t++) {
            for (int k = 1; k <= heap[t]; k++) {
                if (k <= w.things.get(t).wanted) {
                    value += w.things.get(t).worth;
                } else {
                    spare[t]++;
                }
            }
            lack[t] = Math.max(0, w.things.get(t).wanted - heap[t]);
        }
        for (int t = 0; t < n; t++) {
            Thing thing = w.things.get(t);
            while (thing.instead != NONE && lack[t] > 0 && spare[thing.instead] > 0) {
                lack[t]--;
                spare[thing.instead]--;
                value += thing.worth * thing.hundredths / 100;
            }
        }
        int doubled = 0;
        int missing = 0;
        for (int t = 0; t < n; t++) {
            value += spare[t] * w.things.get(t).extra;
            doubled += spare[t];
            missing += lack[t];
            for (int o = t + 1; o < n; o++) {
                if (heap[t] >= 1 && heap[o] >= 1) {
                    value += w.things.get(t).bonus[o];
                }
            }
        }
        return new int[] {value, doubled, missing};
    }

    boolean heapFits(int[] heap) {
        for (int t = 0; t < 4; t++) {
            if (!in(heap[t], 0, isThing(t) ? 12 : 0)) {
                return false;
            }
        }
        return true;
    }

    int heap(int a, int b, int c, int d, int what) {
        int[] heap = {a, b, c, d};
        return heapFits(heap) && in(what, 0, 2) ? weigh(heap, 0)[what] : NONE;
    }

    int change(int a, int b, int c, int d, int loss, int what) {
        int[] heap = {a, b, c, d};
        if (!heapFits(heap) || !in(loss, 0, 100) || !in(what, 0, 2)) {
            return NONE;
        }
        int[] best = {0, NONE, NONE};
        int before = weigh(heap, 0)[0];
        for (int from = 0; from < w.things.size(); from++) {
            for (int to = 0; to < w.things.size(); to++) {
                if (from != to && heap[from] > w.things.get(from).wanted && heap[to] < w.things.get(to).wanted) {
                    int[] changed = heap.clone();
                    changed[from]--;
                    changed[to]++;
                    int more = weigh(changed, -(w.things.get(from).worth * loss / 100))[0] - before;
                    if (more > best[0]) {
                        best = new int[] {more, from, to};
                    }
                }
            }
        }
        return best[what];
    }

    // ---- all choices of all GIVERS, one by one

    interface Seen {
        void choices(int[] choice, int[] heap, int money);
    }

    void all(List<Integer> givers, int i, int[] choice, int[] heap, int money, Seen seen) {
        if (i == givers.size()) {
            seen.choices(choice, heap, money);
            return;
        }
        for (int c : can(givers.get(i))) {
            choice[i] = c;
            if (c < 4) {
                heap[c]++;
            }
            all(givers, i + 1, choice, heap, c == 4 ? money + money(givers.get(i)) : money, seen);
            if (c < 4) {
                heap[c]--;
            }
        }
    }

    /** The mean's numerators of VALUE, DOUBLED, MISSING and the whole. */
    BigInteger[] meanParts() {
        Map<List<Integer>, BigInteger> heaps = new HashMap<>();
        heaps.put(List.of(0, 0, 0, 0, 0), BigInteger.ONE);
        for (int g : givers()) {
            int[] chances = chances(g);
            Map<List<Integer>, BigInteger> next = new HashMap<>();
            for (Map.Entry<List<Integer>, BigInteger> e : heaps.entrySet()) {
                for (int c = 0; c < 5; c++) {
                    if (chances[c] > 0) {
                        List<Integer> more = new ArrayList<>(e.getKey());
                        more.set(c, more.get(c) + (c == 4 ? money(g) : 1));
                        next.merge(more, e.getValue().multiply(BigInteger.valueOf(chances[c])), BigInteger::add);
                    }
                }
            }
            heaps = next;
        }
        BigInteger[] sums = {BigInteger.ZERO, BigInteger.ZERO, BigInteger.ZERO, BigInteger.ZERO};
        for (Map.Entry<List<Integer>, BigInteger> e : heaps.entrySet()) {
            int[] heap = new int[4];
            for (int t = 0; t < 4; t++) {
                heap[t] = e.getKey().get(t);
            }
            int[] worth = weigh(heap, e.getKey().get(4));
            for (int k = 0; k < 3; k++) {
                sums[k] = sums[k].add(e.getValue().multiply(BigInteger.valueOf(worth[k])));
            }
            sums[3] = sums[3].add(e.getValue());
        }
        return sums;
    }

    int mean(int what) {
        if (!in(what, 0, 2)) {
            return NONE;
        }
        BigInteger[] parts = meanParts();
        return parts[what].multiply(BigInteger.valueOf(100)).divide(parts[3]).intValueExact();
    }

    int none(int thing) {
        if (!isThing(thing)) {
            return NONE;
        }
        BigInteger without = BigInteger.valueOf(1000000);
        BigInteger whole = BigInteger.ONE;
        for (int g : givers()) {
            int[] chances = chances(g);
            int sum = chances[0] + chances[1] + chances[2] + chances[3] + chances[4];
            without = without.multiply(BigInteger.valueOf(sum - chances[thing]));
            whole = whole.multiply(BigInteger.valueOf(sum));
        }
        return without.divide(whole).intValueExact();
    }

    /** VALUE, ways, DOUBLED, MISSING, then the FIRST's choices. */
    int[] speak() {
        List<Integer> givers = givers();
        int[] best = new int[4 + givers.size()];
        best[0] = NONE;
        all(givers, 0, new int[givers.size()], new int[4], 0, (choice, heap, money) -> {
            int[] worth = weigh(heap, money);
            if (worth[0] > best[0]) {
                best[0] = worth[0];
                best[1] = 0;
                best[2] = worth[1];
                best[3] = worth[2];
                System.arraycopy(choice, 0, best, 4, choice.length);
            }
            if (worth[0] == best[0]) {
                best[1]++;
            }
        });
        return best;
    }

    int together(int what) {
        return in(what, 0, 3) ? speak()[what] : NONE;
    }

    int brings(int guest) {
        return isGuest(guest) && giver(guest) ? speak()[4 + givers().indexOf(guest)] : NONE;
    }

    int dear(int guest, int choice) {
        if (!isGuest(guest) || !giver(guest) || !can(guest).contains(choice)) {
            return NONE;
        }
        List<Integer> givers = givers();
        int i = givers.indexOf(guest);
        int[] best = {0, 0};
        all(givers, 0, new int[givers.size()], new int[4], 0, (choices, heap, money) -> {
            int value = weigh(heap, money)[0];
            best[0] = Math.max(best[0], value);
            if (choices[i] == choice) {
                best[1] = Math.max(best[1], value);
            }
        });
        return best[0] - best[1];
    }

    int loss() {
        return 100 * together(0) - mean(0);
    }

    // ---- BLIND

    int blind(int m, int choice) {
        int n = w.things.size();
        if (!in(m, 1, 8) || n == 0 || choice != NONE && choice != 4 && !isThing(choice)) {
            return NONE;
        }
        List<int[]> rows = new ArrayList<>();
        tenths(rows, new int[n + 1], 0, 10);
        BigInteger best = null;
        int[] bestRow = null;
        for (int[] row : rows) {
            BigInteger sum = blindSum(row, new int[4], 0, m);
            if (best == null || sum.compareTo(best) > 0) {
                best = sum;
                bestRow = row;
            }
        }
        return choice == NONE ? best.multiply(BigInteger.valueOf(100)).divide(BigInteger.TEN.pow(m)).intValueExact()
            : choice == 4 ? bestRow[n] : bestRow[choice];
    }

    private void tenths(List<int[]> rows, int[] row, int at, int left) {
        if (at == row.length - 1) {
            row[at] = left;
            rows.add(row.clone());
            return;
        }
        for (int t = left; t >= 0; t--) {
            row[at] = t;
            tenths(rows, row, at + 1, left - t);
        }
    }

    /** Sum over all heaps of how many tenths-ways lead to it times its VALUE. */
    private BigInteger blindSum(int[] row, int[] heap, int at, int left) {
        int n = w.things.size();
        if (at == n) {
            return BigInteger.valueOf(row[n]).pow(left).multiply(BigInteger.valueOf(weigh(heap, 0)[0]));
        }
        BigInteger sum = BigInteger.ZERO;
        BigInteger choose = BigInteger.ONE;
        for (int k = 0; k <= left; k++) {
            heap[at] = k;
            BigInteger power = BigInteger.valueOf(row[at]).pow(k);
            if (power.signum() != 0) {
                sum = sum.add(choose.multiply(power).multiply(blindSum(row, heap, at + 1, left - k)));
            }
            choose = choose.multiply(BigInteger.valueOf(left - k)).divide(BigInteger.valueOf(k + 1));
        }
        heap[at] = 0;
        return sum;
    }

    // ---- RULE

    int byBounds(int[] bounds) {
        int[] heap = new int[4];
        int money = 0;
        for (int g : givers()) {
            Guest guest = w.guests.get(g);
            int choice = 4;
            for (int t = w.things.size() - 1; t >= 0; t--) {
                if (guest.letter < bounds[t]) {
                    choice = t;
                }
            }
            if (guest.always != NONE) {
                choice = guest.always;
            } else if (choice < 4 && w.things.get(choice).price > pays(g)) {
                choice = 4;
            }
            if (choice == 4) {
                money += money(g);
            } else {
                heap[choice]++;
            }
        }
        return weigh(heap, money)[0];
    }

    int letters(int a, int b, int c, int d) {
        int[] bounds = {a, b, c, d};
        for (int t = 0; t < 4; t++) {
            if (!isThing(t) ? bounds[t] != 0 : !in(bounds[t], 0, 26) || t > 0 && bounds[t] < bounds[t - 1]) {
                return NONE;
            }
        }
        return byBounds(bounds);
    }

    int rule(int thing) {
        if (w.things.isEmpty() || thing != NONE && !isThing(thing)) {
            return NONE;
        }
        int[] best = {-1, 0, 0, 0, 0};
        tryBounds(new int[4], 0, best);
        return thing == NONE ? best[0] : best[1 + thing];
    }

    private void tryBounds(int[] bounds, int at, int[] best) {
        if (at == w.things.size()) {
            int value = byBounds(bounds);
            if (value > best[0]) {
                best[0] = value;
                System.arraycopy(bounds, 0, best, 1, 4);
            }
            return;
        }
        for (int b = at == 0 ? 0 : bounds[at - 1]; b <= 26; b++) {
            bounds[at] = b;
            tryBounds(bounds, at + 1, best);
            bounds[at] = 0;
        }
    }

    // ---- REST

    /** VALUE, rounds, DOUBLED, MISSING, then what each GIVER brings. */
    int[] settle() {
        List<Integer> givers = givers();
        int[] brings = new int[givers.size()];
        for (int i = 0; i < brings.length; i++) {
            int always = w.guests.get(givers.get(i)).always;
            brings[i] = always == NONE ? 4 : always;
        }
        int rounds = 0;
        boolean moved = true;
        while (moved) {
            moved = false;
            rounds++;
            for (int i = 0; i < brings.length; i++) {
                int had = brings[i];
                int best = of(givers, brings)[0];
                int go = had;
                for (int c : can(givers.get(i))) {
                    brings[i] = c;
                    int value = of(givers, brings)[0];
                    if (value > best) {
                        best = value;
                        go = c;
                    }
                }
                brings[i] = go;
                moved |= go != had;
            }
        }
        int[] worth = of(givers, brings);
        int[] out = new int[4 + brings.length];
        out[0] = worth[0];
        out[1] = rounds;
        out[2] = worth[1];
        out[3] = worth[2];
        System.arraycopy(brings, 0, out, 4, brings.length);
        return out;
    }

    private int[] of(List<Integer> givers, int[] brings) {
        int[] heap = new int[4];
        int money = 0;
        for (int i = 0; i < brings.length; i++) {
            if (brings[i] == 4) {
                money += money(givers.get(i));
            } else {
                heap[brings[i]]++;
            }
        }
        return weigh(heap, money);
    }

    int rest(int what) {
        return in(what, 0, 3) ? settle()[what] : NONE;
    }

    int find(int guest) {
        return isGuest(guest) && giver(guest) ? settle()[4 + givers().indexOf(guest)] : NONE;
    }

    // ---- WEDDINGS

    private long s;

    /** Its VALUE; heap has 4 things and the money. */
    private int wedding(int[] heap, int[] brought) {
        int[] struck = new int[4];
        for (int g : givers()) {
            Guest guest = w.guests.get(g);
            int choice;
            if (guest.always != NONE) {
                choice = guest.always;
            } else if (guest.sees == 1) {
                choice = NONE;
                int best = NONE;
                for (int c : can(g)) {
                    int[] with = struck.clone();
                    if (c < 4) {
                        with[c]++;
                    }
                    int value = weigh(with, c == 4 ? money(g) : 0)[0];
                    if (value > best) {
                        best = value;
                        choice = c;
                    }
                }
            } else {
                int[] weights = weights(g);
                int sum = 0;
                for (int x : weights) {
                    sum += x;
                }
                s = (s * 1103 + 12345) % 1000003;
                long draw = s % sum;
                choice = 0;
                while (draw >= weights[choice]) {
                    draw -= weights[choice];
                    choice++;
                }
            }
            if (guest.sees == 1 && choice < 4) {
                struck[choice]++;
            }
            heap[choice] += choice == 4 ? money(g) : 1;
            brought[g] = choice;
        }
        return weigh(heap, heap[4])[0];
    }

    int wed(int seed) {
        if (!in(seed, 0, 1000000)) {
            return no(-1);
        }
        s = seed;
        had = new int[5];
        brought = new int[12];
        java.util.Arrays.fill(brought, NONE);
        return yes(wedding(had, brought));
    }

    int had(int thing) {
        return had != null && in(thing, 0, 4) ? had[thing] : NONE;
    }

    int brought(int guest) {
        return brought != null && in(guest, 0, 11) ? brought[guest] : NONE;
    }

    int round(int n, int seed) {
        if (!in(n, 1, 100) || !in(seed, 0, 1000000)) {
            return NONE;
        }
        s = seed;
        int sum = 0;
        for (int k = 0; k < n; k++) {
            sum += wedding(new int[5], new int[12]);
        }
        return sum;
    }

    // ---- the rest of the face

    int sure(int what) {
        int[] votes = new int[4];
        for (int g : givers()) {
            if (w.guests.get(g).always != NONE) {
                continue;
            }
            int[] weights = weights(g);
            int best = 0;
            for (int t = 1; t < 4; t++) {
                if (weights[t] > weights[best]) {
                    best = t;
                }
            }
            if (weights[best] > 0) {
                votes[best]++;
            }
        }
        int most = 0;
        for (int t = 1; t < 4; t++) {
            if (votes[t] > votes[most]) {
                most = t;
            }
        }
        return votes[most] == 0 || !in(what, 0, 1) ? NONE : what == 0 ? most : votes[most];
    }

    int image(int k) {
        if (!in(k, 0, 1)) {
            return no(-1);
        }
        images[k] = w.copy();
        return yes(0);
    }

    int back(int k) {
        if (!in(k, 0, 1)) {
            return no(-1);
        }
        if (images[k] == null) {
            return no(-2);
        }
        w = images[k].copy();
        return yes(0);
    }

    int count(int what) {
        int[] all = {w.things.size(), w.guests.size(), w.texts.size(), givers().size(), tape.length(), refused[1],
            refused[2], refused[3], refused[5], refused[6]};
        return in(what, 0, 9) ? all[what] : NONE;
    }

    int status() {
        return status;
    }
}
