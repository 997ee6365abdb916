import java.lang.reflect.InvocationTargetException;
import java.lang.reflect.Method;
import java.nio.file.Files;
import java.nio.file.Path;
import java.util.ArrayList;
import java.util.HashMap;
import java.util.List;
import java.util.Map;

/**
 * A sentence of the document, the promise's number, and a run of calls on a new object with the answers that the
 * sentence asks. A call is written as it stands in Java with its answer behind an arrow, "put(0, 1, 60) -> 50", or
 * without one if its answer is another sentence's. "tape:likes 1" puts that text alone on the TAPE.
 */
abstract class Sentences {
    private static final int MOST_CALLS = 512;
    private static final int LAST_PROMISE = 41;
    private static final Map<String, Method> METHODS = new HashMap<>();
    private static final boolean[] ASKED = new boolean[LAST_PROMISE + 1];
    private static String document;
    private static int sentences = 0;
    private static int wrong = 0;

    /** A run on a new object; rows are texts or arrays of texts. */
    static void says(int promise, String words, Object... rows) {
        sentences++;
        quote(promise, words);
        Run run = new Run("promise " + promise + ", \"" + words + "\"");
        for (String row : flat(rows)) {
            run.row(row);
        }
    }

    /** A call that is REFUSED, told so, and changes nothing: another object without that call answers alike. */
    static void refuses(int promise, String words, int by, String[] before, String call) {
        refuses(promise, words, by, before, call, "count(0)");
    }

    /** Such a call that changes what another call changes, which the other object makes. */
    static void refuses(int promise, String words, int by, String[] before, String call, String other) {
        sentences++;
        quote(promise, words);
        String where = "promise " + promise + ", \"" + words + "\", " + call;
        Run with = new Run(where);
        Run without = new Run(where);
        for (String row : before) {
            with.row(row);
            without.row(row);
        }
        String counter = "count(" + (by < -3 ? 3 - by : 4 - by) + ")";
        int refused = with.call(counter);
        without.call(counter);
        with.row(call + " -> " + by);
        without.call(other);
        with.row("status() -> " + by);
        with.row(counter + " -> " + (refused + 1));
        alike(with, without, LOOK);
        alike(with, without, "text()", "fault()", "count(4)", "back(0)");
        alike(with, without, LOOK_AGAIN);
        alike(with, without, "back(1)");
        alike(with, without, LOOK_AGAIN);
    }

    private static void alike(Run with, Run without, String... calls) {
        for (String call : calls) {
            int due = without.call(call);
            int got = with.call(call);
            if (got != due) {
                with.complain(call + " answers " + got + " behind it, but " + due + " without it");
            }
        }
    }

    private static final String[] LOOK = look(true);
    private static final String[] LOOK_AGAIN = look(false);

    /** Calls that ask for all that stands and change none of it. */
    private static String[] look(boolean all) {
        List<String> calls = new ArrayList<>();
        for (int k = 0; k < 5; k++) {
            calls.add("count(" + k + ")");
            calls.add("had(" + k + ")");
            calls.add("none(" + k + ")");
        }
        for (int guest = 0; guest < 12; guest++) {
            for (int what = 0; what < (all ? 9 : 0); what++) {
                calls.add("of(" + guest + ", " + what + ")");
            }
            calls.add("brought(" + guest + ")");
            calls.add("weight(" + guest + ", 0, 0)");
        }
        calls.addAll(List.of("late()", "fault()", "mean(0)", "mean(1)", "mean(2)", "together(0)", "together(1)",
            "rest(0)", "rule(-1)", "round(5, 77)", "sure(0)", "heap(0, 0, 0, 0, 2)", "heap(12, 0, 0, 0, 0)",
            "heap(0, 12, 0, 0, 0)", "heap(0, 0, 12, 0, 0)", "heap(0, 0, 0, 12, 0)", "heap(1, 1, 1, 1, 0)",
            "blind(2, -1)", "blind(2, 0)"));
        return calls.toArray(new String[0]);
    }

    static void end(String name) {
        System.out.println(name + ": " + sentences + " sentences asked, " + wrong + " answers not as due");
        if (wrong != 0) {
            System.exit(1);
        }
    }

    /** A test that goes through all promises has a sentence of each. */
    static void everyPromiseAsked() {
        for (int promise = 1; promise <= LAST_PROMISE; promise++) {
            if (!ASKED[promise]) {
                wrong++;
                System.out.println("no sentence of promise " + promise);
            }
        }
    }

    /** One row many times. */
    static String[] times(int n, String row) {
        String[] rows = new String[n];
        java.util.Arrays.fill(rows, row);
        return rows;
    }

    /** The same text many times, with one between. */
    static String many(int n, String text, String between) {
        return String.join(between, times(n, text));
    }

    static String[] rows(Object... parts) {
        return flat(parts).toArray(new String[0]);
    }

    private static List<String> flat(Object[] parts) {
        List<String> all = new ArrayList<>();
        for (Object part : parts) {
            if (part instanceof String[]) {
                all.addAll(List.of((String[]) part));
            } else {
                all.add((String) part);
            }
        }
        return all;
    }

    /** What a test says that the document says must stand there, word for word. */
    private static void quote(int promise, String words) {
        if (document == null) {
            try {
                document = plain(Files.readString(Path.of("../shared/DOC.md")));
            } catch (java.io.IOException e) {
                throw new IllegalStateException(e);
            }
        }
        ASKED[promise] = true;
        if (!document.contains(plain(words))) {
            wrong++;
            System.out.println("not in the document: promise " + promise + ", \"" + words + "\"");
        }
    }

    private static String plain(String words) {
        return words.replaceAll("\\s+", " ");
    }

    /** One object and the calls that it has answered. */
    private static final class Run {
        private final String where;
        private final GiftTable x = new GiftTable();
        private final List<String> called = new ArrayList<>();
        private boolean complained;

        Run(String where) {
            this.where = where;
        }

        void row(String row) {
            int arrow = row.lastIndexOf(" -> ");
            if (arrow < 0) {
                call(row);
                return;
            }
            int got = call(row.substring(0, arrow));
            if (got != Integer.parseInt(row.substring(arrow + 4))) {
                complain(row + " answered " + got);
            }
        }

        int call(String call) {
            if (call.startsWith("tape:")) {
                return tape(call.substring(5));
            }
            int open = call.indexOf('(');
            String inside = call.substring(open + 1, call.length() - 1);
            String[] told = inside.isEmpty() ? new String[0] : inside.split(", ");
            Object[] numbers = new Object[told.length];
            for (int k = 0; k < told.length; k++) {
                numbers[k] = Integer.decode(told[k]);
            }
            called.add(call);
            if (called.size() == MOST_CALLS + 1) {
                complain("this test makes more than 512 calls");
            }
            return answer(call.substring(0, open), numbers);
        }

        private int answer(String name, Object[] numbers) {
            try {
                return (Integer) method(name).invoke(x, numbers);
            } catch (InvocationTargetException e) {
                complain(name + " threw " + e.getCause());
                return Integer.MIN_VALUE;
            } catch (IllegalAccessException e) {
                throw new IllegalStateException(e);
            }
        }

        private static Method method(String name) {
            if (METHODS.isEmpty()) {
                for (Method m : GiftTable.class.getDeclaredMethods()) {
                    if (java.lang.reflect.Modifier.isPublic(m.getModifiers())) {
                        METHODS.put(m.getName(), m);
                    }
                }
            }
            if (!METHODS.containsKey(name)) {
                throw new IllegalStateException("no call " + name);
            }
            return METHODS.get(name);
        }

        private int tape(String text) {
            call("end(0)");
            for (int at = 0; at < text.length(); at += 20) {
                int[] n = new int[5];
                for (int k = 0; k < 20; k++) {
                    n[k / 4] = n[k / 4] << 8 | (at + k < text.length() ? text.charAt(at + k) : 0);
                }
                call("feed(" + n[0] + ", " + n[1] + ", " + n[2] + ", " + n[3] + ", " + n[4] + ")");
            }
            return call("end(" + text.length() + ")");
        }

        /** The run is shown once, as it was when it first went wrong. */
        void complain(String what) {
            wrong++;
            System.out.println(where + ": " + what);
            if (complained) {
                return;
            }
            complained = true;
            for (String c : called.subList(Math.max(0, called.size() - 30), called.size())) {
                System.out.println("    " + c);
            }
        }
    }
}
