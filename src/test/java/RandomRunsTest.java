import java.util.ArrayList;
import java.util.List;
import java.util.Random;

/** Runs of as many calls as an object is used for, drawn by fixed seeds, asked of GiftTable and of Plain alike. */
public final class RandomRunsTest {
    private static final int MOST_CALLS = 512;
    /** Twenty times feed(), twice end(), text(), fault(), status(). */
    private static final int MOST_STEP = 25;
    private static int wrong = 0;
    private final Random random;
    private final GiftTable x = new GiftTable();
    private final Plain p = new Plain();
    private final List<String> run = new ArrayList<>();
    private final int mostGuests;
    private int calls;

    private RandomRunsTest(long seed, int mostGuests) {
        random = new Random(seed);
        this.mostGuests = mostGuests;
    }

    public static void main(String[] args) {
        int runs = args.length > 0 ? Integer.parseInt(args[0]) : 400;
        long from = args.length > 1 ? Long.parseLong(args[1]) : 0;
        for (long seed = from; seed < from + runs && wrong < 5; seed++) {
            RandomRunsTest t = new RandomRunsTest(seed, seed % 10 == 9 ? 12 : 5);
            t.build();
            while (t.calls <= MOST_CALLS - MOST_STEP && wrong < 5) {
                t.step();
            }
        }
        System.out.println(wrong == 0 ? "random runs: all as in Plain" : "random runs: " + wrong + " differ");
        if (wrong != 0) {
            System.exit(1);
        }
    }

    private void same(String call, int got, int want) {
        calls++;
        run.add(call + " = " + got);
        if (got != want) {
            wrong++;
            System.out.println(call + " answered " + got + ", Plain says " + want + " after:");
            for (String c : run) {
                System.out.println("    " + c);
            }
        }
    }

    /** Mostly within the bounds, sometimes just outside or wild. */
    private int near(int least, int most) {
        int r = random.nextInt(60);
        if (r == 0) {
            return least - 1;
        }
        if (r == 1) {
            return most + 1;
        }
        if (r == 2) {
            return random.nextInt();
        }
        if (r < 6) {
            return least;
        }
        if (r < 9) {
            return most;
        }
        return least + random.nextInt(most - least + 1);
    }

    private void build() {
        int things = random.nextInt(5);
        for (int k = 0; k < things; k++) {
            thing();
        }
        int guests = random.nextInt(mostGuests + 1);
        for (int k = 0; k < guests; k++) {
            guest();
        }
        for (int k = 0; k < 3; k++) {
            text();
            way();
        }
    }

    private void thing() {
        int a = near(0, random.nextBoolean() ? 3 : 9), b = near(0, 99), c = near(0, random.nextBoolean() ? 20 : 99);
        int d = near(1, random.nextBoolean() ? 50 : 200);
        same("thing(" + a + ", " + b + ", " + c + ", " + d + ")", x.thing(a, b, c, d), p.thing(a, b, c, d));
    }

    private void guest() {
        if (p.count(1) >= mostGuests && mostGuests < 12) {
            return;
        }
        int a = near(0, 25), b = near(0, 99), c = near(0, 200), d = near(0, random.nextInt(6));
        same("guest(" + a + ", " + b + ", " + c + ", " + d + ")", x.guest(a, b, c, d), p.guest(a, b, c, d));
    }

    private void way() {
        int a = near(0, random.nextInt(6)), b = near(-1, 3);
        same("way(" + a + ", " + b + ")", x.way(a, b), p.way(a, b));
    }

    private void tape(String s) {
        StringBuilder t = new StringBuilder(s);
        int length = s.length();
        while (t.length() % 20 != 0) {
            t.append(' ');
        }
        same("end(0)", x.end(0), p.end(0));
        for (int at = 0; at < t.length() && at + 20 <= 400; at += 20) {
            int[] n = new int[5];
            for (int k = 0; k < 20; k++) {
                n[k / 4] = n[k / 4] << 8 | t.charAt(at + k) & 255;
            }
            same("feed " + at, x.feed(n[0], n[1], n[2], n[3], n[4]), p.feed(n[0], n[1], n[2], n[3], n[4]));
        }
        int n = Math.min(length, 400);
        same("end(" + n + ")", x.end(n), p.end(n));
        run.add("tape: " + s);
    }

    private void text() {
        String s = clauses();
        if (random.nextInt(4) == 0) {
            s = spoil(s);
        }
        tape(s);
        same("text()", x.text(), p.text());
        same("fault()", x.fault(), p.fault());
    }

    private String spoil(String s) {
        if (s.isEmpty()) {
            return s;
        }
        int at = random.nextInt(s.length());
        switch (random.nextInt(4)) {
            case 0:
                return s.substring(0, at);
            case 1:
                return s.substring(0, at) + s.substring(at + 1);
            case 2:
                return s.substring(0, at) + " ;()[]+-*/<>=01a?\n".charAt(random.nextInt(18)) + s.substring(at);
            default:
                return s.substring(0, at) + word("likes", "coin", "if", "or", "and", "not", "thing", "x", "1001", "007")
                    + s.substring(at);
        }
    }

    private String word(String... of) {
        return of[random.nextInt(of.length)];
    }

    private String clauses() {
        StringBuilder s = new StringBuilder(clause());
        int more = random.nextInt(12) == 0 ? 12 : random.nextInt(4);
        for (int k = 0; k < more; k++) {
            s.append(word(";", "; ", " ; ")).append(clause());
        }
        return s.toString();
    }

    private String clause() {
        String s = word("likes", "likes", "coin") + " " + sum(2);
        return random.nextBoolean() ? s : s + " if " + test(2);
    }

    private String test(int deep) {
        String s = both(deep);
        while (random.nextInt(3) == 0) {
            s += " or " + both(deep);
        }
        return s;
    }

    private String both(int deep) {
        String s = plain(deep);
        while (random.nextInt(4) == 0) {
            s += " and " + plain(deep);
        }
        return s;
    }

    private String plain(int deep) {
        int r = random.nextInt(8);
        if (r == 0) {
            return "not " + plain(deep);
        }
        if (r == 1 && deep > 0) {
            return "(" + test(deep - 1) + ")";
        }
        return sum(deep) + word("<", ">", "=", " < ") + sum(deep);
    }

    private String sum(int deep) {
        String s = term(deep);
        while (random.nextInt(4) == 0) {
            s += word("+", "-") + term(deep);
        }
        return s;
    }

    private String term(int deep) {
        String s = part(deep);
        while (random.nextInt(3) == 0) {
            s += word("*", "/", "*") + part(deep);
        }
        return s;
    }

    private String part(int deep) {
        int r = random.nextInt(9);
        if (r == 0 && deep > 0) {
            return "[" + sum(deep - 1) + "]";
        }
        if (r < 4) {
            return "" + (random.nextInt(6) == 0 ? 1000 : random.nextInt(random.nextBoolean() ? 10 : 1001));
        }
        return word("thing", "wanted", "worth", "price", "letter", "age", "purse", "sort", "givers", "struck");
    }

    private int aThing() {
        return near(0, Math.max(0, p.count(0) - 1));
    }

    private int aGuest() {
        return near(0, Math.max(0, p.count(1) - 1));
    }

    private int aChoice() {
        return random.nextInt(4) == 0 ? 4 : aThing();
    }

    private int heapCount(int k) {
        return k < p.count(0) ? near(0, random.nextInt(3) == 0 ? 12 : 4) : random.nextInt(20) == 0 ? 1 : 0;
    }

    private void step() {
        int a, b, c, d, e, f;
        switch (random.nextInt(44)) {
            case 0: thing(); break;
            case 1: a = aThing(); b = near(0, 3); c = near(1, 50);
                same("put(" + a + ", " + b + ", " + c + ")", x.put(a, b, c), p.put(a, b, c)); break;
            case 2: case 3: a = aThing(); b = near(-1, 3); c = b == -1 && random.nextInt(4) != 0 ? 0 : near(0, 100);
                same("instead(" + a + ", " + b + ", " + c + ")", x.instead(a, b, c), p.instead(a, b, c)); break;
            case 4: a = aThing(); b = aThing(); c = near(0, 200);
                same("bonus(" + a + ", " + b + ", " + c + ")", x.bonus(a, b, c), p.bonus(a, b, c)); break;
            case 5: guest(); break;
            case 6: a = aGuest(); b = near(-1, 3);
                same("always(" + a + ", " + b + ")", x.always(a, b), p.always(a, b)); break;
            case 7: a = aGuest(); b = near(0, 1);
                same("sees(" + a + ", " + b + ")", x.sees(a, b), p.sees(a, b)); break;
            case 8: a = aGuest(); b = random.nextInt(3) == 0 ? -1 : aGuest();
                same("pair(" + a + ", " + b + ")", x.pair(a, b), p.pair(a, b)); break;
            case 9: a = near(0, 100); same("coin(" + a + ")", x.coin(a), p.coin(a)); break;
            case 10: a = aGuest(); b = near(0, 8); same("of(" + a + ", " + b + ")", x.of(a, b), p.of(a, b)); break;
            case 11: row(); break;
            case 12: text(); break;
            case 13: way(); break;
            case 14: case 15: case 16: a = aGuest(); b = aChoice(); c = near(0, 12);
                same("weight(" + a + ", " + b + ", " + c + ")", x.weight(a, b, c), p.weight(a, b, c)); break;
            case 17: case 18: a = heapCount(0); b = heapCount(1); c = heapCount(2); d = heapCount(3); e = near(0, 2);
                same("heap(" + a + ", " + b + ", " + c + ", " + d + ", " + e + ")", x.heap(a, b, c, d, e),
                    p.heap(a, b, c, d, e)); break;
            case 19: case 20: a = near(0, 2); same("mean(" + a + ")", x.mean(a), p.mean(a)); break;
            case 21: a = aThing(); same("none(" + a + ")", x.none(a), p.none(a)); break;
            case 22: if (few()) { a = near(0, 3); same("together(" + a + ")", x.together(a), p.together(a)); } break;
            case 23: if (few()) { a = aGuest(); same("brings(" + a + ")", x.brings(a), p.brings(a)); } break;
            case 24: case 25: if (few()) { a = aGuest(); b = aChoice();
                same("dear(" + a + ", " + b + ")", x.dear(a, b), p.dear(a, b)); } break;
            case 26: if (few()) { same("loss()", x.loss(), p.loss()); } break;
            case 27: a = near(1, p.count(0) > 3 ? 3 : 8); b = random.nextInt(3) == 0 ? -1 : aChoice();
                same("blind(" + a + ", " + b + ")", x.blind(a, b), p.blind(a, b)); break;
            case 28: if (p.count(0) < 4 || random.nextInt(8) == 0) { a = near(-1, 3);
                same("rule(" + a + ")", x.rule(a), p.rule(a)); } break;
            case 29: case 30: letters(); break;
            case 31: a = near(0, 3); same("rest(" + a + ")", x.rest(a), p.rest(a)); break;
            case 32: a = aGuest(); same("find(" + a + ")", x.find(a), p.find(a)); break;
            case 33: case 34: a = near(0, 1000000); same("wed(" + a + ")", x.wed(a), p.wed(a)); break;
            case 35: a = near(0, 4); same("had(" + a + ")", x.had(a), p.had(a)); break;
            case 36: a = near(0, 11); same("brought(" + a + ")", x.brought(a), p.brought(a)); break;
            case 37: a = near(1, random.nextInt(5) == 0 ? 100 : 5); b = near(0, 1000000);
                same("round(" + a + ", " + b + ")", x.round(a, b), p.round(a, b)); break;
            case 38: case 39: a = heapCount(0); b = heapCount(1); c = heapCount(2); d = heapCount(3); e = near(0, 100);
                f = near(0, 2);
                same("change(" + a + ", " + b + ", " + c + ", " + d + ", " + e + ", " + f + ")",
                    x.change(a, b, c, d, e, f), p.change(a, b, c, d, e, f)); break;
            case 40: a = near(0, 1); same("sure(" + a + ")", x.sure(a), p.sure(a)); break;
            case 41: a = near(0, 1); same("image(" + a + ")", x.image(a), p.image(a)); break;
            case 42: a = near(0, 1); same("back(" + a + ")", x.back(a), p.back(a)); break;
            default: a = near(0, 9); same("count(" + a + ")", x.count(a), p.count(a)); break;
        }
        same("status()", x.status(), p.status());
    }

    /** Plain goes through all choices one by one: that is too long for many GIVERS. */
    private boolean few() {
        return p.count(3) <= 6;
    }

    private void row() {
        StringBuilder s = new StringBuilder();
        int n = random.nextInt(3);
        for (int k = 0; k < n && p.count(1) + k < mostGuests; k++) {
            s.append((char) (near(0, 25) & 255)).append((char) (near(0, 99) & 255)).append((char) (near(0, 200) & 255))
                .append((char) (near(0, 5) & 255));
        }
        if (random.nextInt(3) == 0) {
            s.append((char) 1);
        }
        tape(s.toString());
        same("row()", x.row(), p.row());
        same("late()", x.late(), p.late());
    }

    private void letters() {
        int n = p.count(0);
        int[] v = new int[4];
        int floor = 0;
        for (int k = 0; k < n; k++) {
            v[k] = Math.min(floor, 26) + random.nextInt(27 - Math.min(floor, 26));
            floor = v[k];
            if (random.nextInt(20) == 0) {
                v[k] = near(0, 26);
            }
        }
        same("letters(" + v[0] + ", " + v[1] + ", " + v[2] + ", " + v[3] + ")", x.letters(v[0], v[1], v[2], v[3]),
            p.letters(v[0], v[1], v[2], v[3]));
    }
}
