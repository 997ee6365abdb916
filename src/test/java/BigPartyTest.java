import java.util.Arrays;
import java.util.HashMap;
import java.util.List;
import java.util.Map;
import java.util.Random;

/** Twelve GIVERS, four THINGS and great WEIGHTS: the exact MEAN beside BigInteger, TOGETHER beside a walk over heaps. */
public final class BigPartyTest {
    private static int wrong = 0;

    private static void same(String call, int got, int want) {
        if (got != want) {
            wrong++;
            System.out.println(call + " answered " + got + ", due is " + want);
        }
    }

    public static void main(String[] args) {
        for (int seed = 0; seed < 12; seed++) {
            party(seed);
        }
        exact("likes 1000;coin 1000");
        exact("likes 999-thing*7-letter*3;coin 991-letter");
        System.out.println(wrong == 0 ? "big parties: all as due" : wrong + " answers are not as due");
        if (wrong != 0) {
            System.exit(1);
        }
    }

    private static void party(int seed) {
        Random r = new Random(seed);
        GiftTable x = new GiftTable();
        Plain p = new Plain();
        for (int k = 0; k < 4; k++) {
            int wanted = r.nextInt(6), worth = 50 + r.nextInt(50), extra = r.nextInt(60), price = 1 + r.nextInt(40);
            x.thing(wanted, worth, extra, price);
            p.thing(wanted, worth, extra, price);
        }
        for (int k = 0; k < 6; k++) {
            int a = r.nextInt(4), b = r.nextInt(4), c = r.nextInt(101);
            x.instead(a, b, c);
            p.instead(a, b, c);
            x.bonus(b, a, c);
            p.bonus(b, a, c);
        }
        for (int k = 0; k < 12; k++) {
            int letter = r.nextInt(26), age = r.nextInt(100), purse = seed < 6 ? 100 : 20 + 60 * r.nextInt(4);
            x.guest(letter, age, purse, 0);
            p.guest(letter, age, purse, 0);
        }
        for (int k = 0; k < seed % 4; k++) {
            int a = r.nextInt(12), b = r.nextInt(12), t = r.nextInt(4), g = r.nextInt(12);
            same(seed + ": pair", x.pair(a, b), p.pair(a, b));
            same(seed + ": always", x.always(g, t), p.always(g, t));
        }
        text(x, p, seed % 2 == 0 ? "likes 1000-thing*3-letter;coin 997-age" : "likes 1000;coin 1000");
        for (int k = 0; k < 3; k++) {
            same(seed + ": mean(" + k + ")", x.mean(k), p.mean(k));
        }
        for (int k = 0; k < 4; k++) {
            same(seed + ": none(" + k + ")", x.none(k), p.none(k));
        }
        x.coin(49);
        p.coin(49);
        same(seed + ": mean once more", x.mean(0), p.mean(0));
        int[] held = new int[12];
        Arrays.fill(held, FREE);
        int[] best = together(p, held);
        same(seed + ": together(0)", x.together(0), best[0]);
        same(seed + ": together(1)", x.together(1), best[1]);
        same(seed + ": loss()", x.loss(), 100 * best[0] - p.mean(0));
        for (int g : p.givers()) {
            for (int c = 0; c < 5; c++) {
                held[g] = c;
                int less = p.can(g).contains(c) ? best[0] - together(p, held)[0] : -1;
                same(seed + ": dear(" + g + ", " + c + ")", x.dear(g, c), less);
                held[g] = FREE;
            }
        }
        first(seed, x, p, best[0]);
        same(seed + ": blind(8, -1)", x.blind(8, -1), p.blind(8, -1));
        same(seed + ": rule(-1)", x.rule(-1), p.rule(-1));
    }

    /** Whatever they choose the VALUE is 120, so a last bit that is lost in the sums makes the MEAN less. */
    private static void exact(String way) {
        GiftTable x = new GiftTable();
        Plain p = new Plain();
        for (int k = 0; k < 4; k++) {
            x.thing(0, 0, 10, 1);
            p.thing(0, 0, 10, 1);
        }
        for (int k = 0; k < 12; k++) {
            x.guest(k, 0, 20, 0);
            p.guest(k, 0, 20, 0);
        }
        text(x, p, way);
        same("mean(0) by " + way, x.mean(0), 12000);
        same("mean(1) by " + way, x.mean(1), p.mean(1));
        same("none(3) by " + way, x.none(3), p.none(3));
        x.coin(0);
        p.coin(0);
        same("mean(0) without money by " + way, x.mean(0), p.mean(0));
    }

    private static void text(GiftTable x, Plain p, String s) {
        for (int at = 0; at < s.length(); at += 20) {
            int[] n = new int[5];
            for (int k = 0; k < 20; k++) {
                n[k / 4] = n[k / 4] << 8 | (at + k < s.length() ? s.charAt(at + k) : ' ');
            }
            x.feed(n[0], n[1], n[2], n[3], n[4]);
            p.feed(n[0], n[1], n[2], n[3], n[4]);
        }
        same("text", x.text(), p.text());
        same("way", x.way(0, 0), p.way(0, 0));
    }

    private static final int FREE = -1;

    /** The greatest VALUE and its ways, some GIVERS held to a choice: heaps with all the MONEY each can come with. */
    private static int[] together(Plain p, int[] held) {
        Map<List<Integer>, Integer> ways = new HashMap<>();
        ways.put(List.of(0, 0, 0, 0, 0), 1);
        for (int g : p.givers()) {
            Map<List<Integer>, Integer> next = new HashMap<>();
            for (Map.Entry<List<Integer>, Integer> e : ways.entrySet()) {
                for (int c : held[g] != FREE ? List.of(held[g]) : p.can(g)) {
                    Integer[] more = e.getKey().toArray(new Integer[0]);
                    more[c] += c == 4 ? p.money(g) : 1;
                    next.merge(List.of(more), e.getValue(), Integer::sum);
                }
            }
            ways = next;
        }
        int[] best = {-1, 0};
        for (Map.Entry<List<Integer>, Integer> e : ways.entrySet()) {
            List<Integer> h = e.getKey();
            int value = p.weigh(new int[] {h.get(0), h.get(1), h.get(2), h.get(3)}, h.get(4))[0];
            if (value > best[0]) {
                best[0] = value;
                best[1] = 0;
            }
            if (value == best[0]) {
                best[1] += e.getValue();
            }
        }
        return best;
    }

    /** GIVER by GIVER the first choice by which, and by those ahead, the greatest VALUE can still come. */
    private static void first(int seed, GiftTable x, Plain p, int best) {
        int[] held = new int[12];
        Arrays.fill(held, FREE);
        int[] heap = new int[4];
        int money = 0;
        for (int g : p.givers()) {
            for (int c : p.can(g)) {
                held[g] = c;
                if (together(p, held)[0] == best) {
                    break;
                }
            }
            same(seed + ": brings(" + g + ")", x.brings(g), held[g]);
            if (held[g] == 4) {
                money += p.money(g);
            } else {
                heap[held[g]]++;
            }
        }
        int[] worth = p.weigh(heap, money);
        same(seed + ": value of the first", worth[0], best);
        same(seed + ": together(2)", x.together(2), worth[1]);
        same(seed + ": together(3)", x.together(3), worth[2]);
    }
}
