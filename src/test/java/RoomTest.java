import java.lang.management.ManagementFactory;
import java.lang.reflect.Array;
import java.lang.reflect.Field;
import java.lang.reflect.Modifier;
import java.util.ArrayList;
import java.util.Collections;
import java.util.IdentityHashMap;
import java.util.List;
import java.util.Map;

/** LANGUAGE.md 12: what a new object holds, what 512 calls make beside it, and that but text() makes nothing. */
public final class RoomTest {
    private static final int MOST_CALLS = 512;
    private static final int MOST_OBJECTS = 150;
    private static final int MOST_CELLS = 60000;
    /** Six that stand and six in each IMAGE. */
    private static final int MOST_TEXTS = 18;
    /** A TEXT is an object and two arrays: at most as many elements as the TAPE has bytes, and four for each CLAUSE. */
    private static final int MOST_TEXT_CELLS = 2 + 400 + 48;
    private static final int MOST_TEXT_BYTES = 4 * MOST_TEXT_CELLS + 100;
    /** As many PARTS, "or" and "not" as there may be. */
    private static final String LONG = "likes 1;coin 1 if not " + String.join("or not ", Collections.nCopies(24, "1=1"));

    private static final com.sun.management.ThreadMXBean THREADS =
        (com.sun.management.ThreadMXBean) ManagementFactory.getThreadMXBean();
    private static int wrong = 0;

    private static void check(boolean holds, String what) {
        if (!holds) {
            wrong++;
            System.out.println("room: " + what);
        }
    }

    public static void main(String[] args) throws IllegalAccessException {
        GiftTable x = new GiftTable();
        int[] held = held(x);
        check(held[0] <= MOST_OBJECTS, "a new object holds " + held[0] + " objects and arrays");
        check(held[1] <= MOST_CELLS, "a new object holds " + held[1] + " fields and elements");
        fill(x);
        int[] full = held(x);
        check(full[0] <= held[0] + 3 * MOST_TEXTS, "a full one holds " + full[0] + " objects and arrays");
        check(full[1] <= held[1] + MOST_TEXTS * MOST_TEXT_CELLS, "a full one holds " + full[1] + " fields and elements");
        // The first time the machine loads classes, and makes objects of its own for that.
        askAll(x, false);
        GiftTable y = new GiftTable();
        int calls = fill(y) + askAll(y, true);
        check(calls <= MOST_CALLS, "this test makes " + calls + " calls");
        System.out.println(wrong == 0 ? "room: " + held[0] + " objects with " + held[1] + " cells, full " + full[0] + " with "
            + full[1] : "room: " + wrong + " not as due");
        if (wrong != 0) {
            System.exit(1);
        }
    }

    private static int tape(GiftTable x, String s) {
        int calls = 2;
        x.end(0);
        for (int at = 0; at < s.length(); at += 20) {
            int[] n = new int[5];
            for (int k = 0; k < 20; k++) {
                n[k / 4] = n[k / 4] << 8 | (at + k < s.length() ? s.charAt(at + k) : ' ');
            }
            x.feed(n[0], n[1], n[2], n[3], n[4]);
            calls++;
        }
        x.end(s.length());
        return calls;
    }

    /** Four THINGS, twelve GUESTS, six TEXTS; five others in IMAGE 1. */
    private static int fill(GiftTable x) {
        int calls = 0;
        for (int k = 0; k < 4; k++) {
            x.thing(9, 99 - k, 98, 1 + k);
            x.instead(k, (k + 1) % 4, 50);
            calls += 2;
        }
        for (int k = 0; k < 12; k++) {
            x.guest(2 * k, k, 200 - k, k % 6);
            calls++;
        }
        x.image(0);
        for (int most = 5; most <= 6; most++) {
            for (int k = 0; k < most; k++) {
                calls += tape(x, LONG) + 2;
                check(x.text() == k, "the long TEXT is not read");
                x.way(k, k);
            }
            x.image(most == 5 ? 1 : 0);
            if (most == 5) {
                x.back(0);
            }
        }
        return calls + 4;
    }

    /** Each call, behind one that alters what was worked out: none makes anything but text(), for a TEXT that it read. */
    private static int askAll(GiftTable x, boolean counted) {
        for (int k = 0; k < 80; k++) {
            x.coin(k);
            long before = THREADS.getCurrentThreadAllocatedBytes();
            ask(x, k);
            long made = THREADS.getCurrentThreadAllocatedBytes() - before;
            check(!counted || made == 0, "call " + k % 40 + " made " + made + " bytes");
        }
        x.back(1);
        int calls = tape(x, LONG);
        long before = THREADS.getCurrentThreadAllocatedBytes();
        int text = x.text();
        long made = THREADS.getCurrentThreadAllocatedBytes() - before;
        check(text >= 0 && (!counted || made > 0 && made <= MOST_TEXT_BYTES), "text() = " + text + " made " + made + " bytes");
        return 2 * 80 + 2 + calls;
    }

    private static int ask(GiftTable x, int k) {
        switch (k % 40) {
            case 0: return x.thing(1, 1, 1, 1);
            case 1: return x.put(0, 1, k);
            case 2: return x.instead(0, 1, k);
            case 3: return x.bonus(0, 1, k);
            case 4: return x.guest(1, 1, 1, 1);
            case 5: return x.always(k % 12, k % 4);
            case 6: return x.sees(k % 12, 1);
            case 7: return x.pair(k % 12, 11);
            case 8: return x.of(k % 12, 8);
            case 9: return x.feed(k, k, k, k, k);
            case 10: return x.row();
            case 11: return x.late();
            case 12: return x.fault();
            case 13: return x.way(1, 0);
            case 14: return x.weight(0, 0, 3);
            case 15: return x.heap(12, 12, 12, 12, 0);
            case 16: return x.mean(0);
            case 17: return x.none(0);
            case 18: return x.together(1);
            case 19: return x.brings(0);
            case 20: return x.dear(0, 4);
            case 21: return x.loss();
            case 22: return x.blind(8, 0);
            case 23: return x.rule(-1);
            case 24: return x.letters(1, 2, 3, 4);
            case 25: return x.rest(1);
            case 26: return x.find(0);
            case 27: return x.wed(k);
            case 28: return x.had(0);
            case 29: return x.brought(0);
            case 30: return x.round(100, k);
            case 31: return x.change(12, 0, 0, 0, k, 0);
            case 32: return x.sure(0);
            case 33: return x.image(0);
            case 34: return x.back(1);
            case 35: return x.count(3);
            case 36: return x.status();
            case 37: return x.end(0);
            // A TEXT that can't be read is none.
            case 38: return x.text();
            default: return x.mean(2);
        }
    }

    /** Objects and arrays that can be reached, and their fields and elements. */
    private static int[] held(Object first) throws IllegalAccessException {
        Map<Object, Boolean> seen = new IdentityHashMap<>();
        List<Object> open = new ArrayList<>(List.of(first));
        seen.put(first, true);
        int cells = 0;
        while (!open.isEmpty()) {
            Object next = open.remove(open.size() - 1);
            List<Object> inside = new ArrayList<>();
            if (next.getClass().isArray()) {
                cells += Array.getLength(next);
                for (int k = 0; k < Array.getLength(next) && !next.getClass().getComponentType().isPrimitive(); k++) {
                    inside.add(Array.get(next, k));
                }
            } else {
                for (Field f : next.getClass().getDeclaredFields()) {
                    if (!Modifier.isStatic(f.getModifiers())) {
                        cells++;
                        f.setAccessible(true);
                        inside.add(f.getType().isPrimitive() ? null : f.get(next));
                    }
                }
            }
            for (Object o : inside) {
                if (o != null && seen.put(o, true) == null) {
                    open.add(o);
                }
            }
        }
        return new int[] {seen.size(), cells};
    }
}
