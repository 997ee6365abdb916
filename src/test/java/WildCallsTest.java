import java.util.Random;

/** No call throws, whatever it is told and in whatever state, and the same calls give the same answers. */
public final class WildCallsTest {
    private static final int[] EDGES = {Integer.MIN_VALUE, -1000, -2, -1, 0, 1, 2, 3, 4, 5, 9, 11, 12, 13, 26, 99, 100,
        101, 200, 400, 1000000, 1000001, Integer.MAX_VALUE};

    public static void main(String[] args) {
        for (long seed = 0; seed < 60; seed++) {
            long one = run(seed);
            if (one != run(seed)) {
                System.out.println("seed " + seed + ": the same calls gave other answers");
                System.exit(1);
            }
        }
        System.out.println("wild calls: none threw");
    }

    private static int number(Random r) {
        int k = r.nextInt(10);
        return k == 0 ? r.nextInt() : k < 4 ? EDGES[r.nextInt(EDGES.length)] : r.nextInt(13);
    }

    private static long run(long seed) {
        Random r = new Random(seed);
        GiftTable x = new GiftTable();
        String[] texts = {"likes 1;coin 1", "likes 1000*1000*1000/[thing-1] if not (age<struck or 1/0=1)",
            "coin purse-givers;likes worth*wanted-price"};
        long mix = 0;
        for (int k = 0; k < 1500; k++) {
            mix = mix * 31 + (k % 3 == 0 ? fitting(x, r, texts) : call(x, r));
        }
        return mix;
    }

    private static int fitting(GiftTable x, Random r, String[] texts) {
        switch (r.nextInt(5)) {
            case 0:
                return x.thing(r.nextInt(10), r.nextInt(100), r.nextInt(100), 1 + r.nextInt(200));
            case 1:
                return x.guest(r.nextInt(26), r.nextInt(100), r.nextInt(201), r.nextInt(6));
            case 2:
                return x.pair(r.nextInt(12), r.nextInt(12));
            case 3:
                String s = texts[r.nextInt(texts.length)];
                x.end(0);
                for (int at = 0; at < s.length(); at += 4) {
                    int n = 0;
                    for (int k = at; k < at + 4; k++) {
                        n = n << 8 | (k < s.length() ? s.charAt(k) : ' ');
                    }
                    x.feed(n, 0, 0, 0, 0);
                    x.end(at + 4);
                }
                return x.text();
            default:
                return x.way(r.nextInt(6), r.nextInt(6));
        }
    }

    private static int call(GiftTable x, Random r) {
        int a = number(r), b = number(r), c = number(r), d = number(r), e = number(r), f = number(r);
        switch (r.nextInt(41)) {
            case 0: return x.thing(a, b, c, d);
            case 1: return x.put(a, b, c);
            case 2: return x.instead(a, b, c);
            case 3: return x.bonus(a, b, c);
            case 4: return x.guest(a, b, c, d);
            case 5: return x.always(a, b);
            case 6: return x.sees(a, b);
            case 7: return x.pair(a, b);
            case 8: return x.coin(a);
            case 9: return x.of(a, b);
            case 10: return x.feed(a, b, c, d, e);
            case 11: return x.end(a);
            case 12: return x.row();
            case 13: return x.late();
            case 14: return x.text();
            case 15: return x.fault();
            case 16: return x.way(a, b);
            case 17: return x.weight(a, b, c);
            case 18: return x.heap(a, b, c, d, e);
            case 19: return x.mean(a);
            case 20: return x.none(a);
            case 21: return x.together(a);
            case 22: return x.brings(a);
            case 23: return x.dear(a, b);
            case 24: return x.loss();
            case 25: return x.blind(a, b);
            case 26: return x.rule(a);
            case 27: return x.letters(a, b, c, d);
            case 28: return x.rest(a);
            case 29: return x.find(a);
            case 30: return x.wed(a);
            case 31: return x.had(a);
            case 32: return x.brought(a);
            case 33: return x.round(a, b);
            case 34: return x.change(a, b, c, d, e, f);
            case 35: return x.sure(a);
            case 36: return x.image(a);
            case 37: return x.back(a);
            case 38: return x.count(a);
            case 39: return x.status();
            default: return x.back(r.nextInt(2));
        }
    }
}
