/** The sections "Promise 1" to "Promise 41": each one's boundaries, what it refuses and that this changes nothing. */
public final class PromiseEdgesTest extends Sentences {
    /** Something of all that can stand: five TEXTS, a FAULT, an IMAGE, a WEDDING, LATE ones, three bytes on the TAPE. */
    private static final String[] BASE = rows("tape:likes thing+1;coin 2", "text() -> 0", "tape:likes worth;coin 9 if age>30",
        "text() -> 1", "tape:coin 3", "text() -> 2", "tape:likes 1", "text() -> 3", "tape:likes 1+struck;coin 1",
        "text() -> 4", "thing(2, 30, 4, 20)", "thing(1, 50, 5, 40)", "thing(3, 10, 2, 5)", "thing(0, 0, 9, 1)",
        "instead(0, 1, 50)", "instead(2, 3, 80)", "bonus(0, 1, 17)", "bonus(2, 3, 5)", "way(0, 0)", "way(1, 1)", "way(2, 4)",
        "guest(0, 20, 100, 0)", "guest(3, 30, 90, 1)", "guest(5, 40, 15, 2)", "guest(7, 50, 60, 1)", "guest(9, 60, 30, 0)",
        "guest(12, 70, 5, 2)", "always(2, 1)", "sees(1, 1)", "sees(5, 1)", "pair(3, 4)", "coin(40)", "tape:\1",
        "row() -> 0", "wed(5)", "image(0)", "coin(30)", "guest(1, 1, 1, 1)", "tape:likes", "text() -> -6", "tape:abc");
    private static final String[] FULL = rows(BASE, "tape:coin 9", "text() -> 5", times(5, "guest(4, 4, 44, 1)"), "tape:abc");
    private static final String[] PARTY = rows("thing(1, 50, 5, 20)", "thing(2, 30, 10, 30)", "guest(0, 0, 30, 0)",
        "guest(5, 0, 29, 0)");

    public static void main(String[] args) {
        newObject();
        thing();
        put();
        instead();
        bonus();
        guest();
        always();
        sees();
        pair();
        coin();
        of();
        feed();
        endOfTape();
        row();
        late();
        text();
        fault();
        way();
        weight();
        heap();
        meanAndNone();
        together();
        bringsAndDear();
        loss();
        blind();
        rule();
        letters();
        rest();
        find();
        wed();
        hadAndBrought();
        round();
        change();
        sure();
        imageAndBack();
        count();
        status();
        everyPromiseAsked();
        end("Promises 1 to 41");
    }

    private static void newObject() {
        String words = "No THINGS, GUESTS, TEXTS.";
        says(1, words, "count(0) -> 0", "count(1) -> 0", "count(2) -> 0", "count(3) -> 0", "count(4) -> 0", "count(5) -> 0",
            "count(6) -> 0", "count(7) -> 0", "count(8) -> 0", "count(9) -> 0", "status() -> 0", "fault() -> -1", "late() -> 0",
            "had(0) -> -1", "had(4) -> -1", "brought(0) -> -1", "of(0, 0) -> -1000", "mean(0) -> 0", "mean(1) -> 0",
            "mean(2) -> 0", "none(0) -> -1", "together(0) -> 0", "together(1) -> 1", "together(2) -> 0", "together(3) -> 0",
            "brings(0) -> -1", "dear(0, 4) -> -1", "loss() -> 0", "blind(1, -1) -> -1", "blind(1, 4) -> -1", "rule(-1) -> -1",
            "rule(0) -> -1", "letters(0, 0, 0, 0) -> 0", "letters(0, 0, 0, 1) -> -1", "rest(0) -> 0", "rest(1) -> 1",
            "rest(2) -> 0", "rest(3) -> 0", "find(0) -> -1", "round(100, 0) -> 0", "sure(0) -> -1", "sure(1) -> -1",
            "heap(0, 0, 0, 0, 0) -> 0", "heap(0, 0, 0, 0, 1) -> 0", "heap(0, 0, 0, 0, 2) -> 0", "heap(1, 0, 0, 0, 0) -> -1",
            "change(0, 0, 0, 0, 0, 0) -> 0", "change(0, 0, 0, 0, 0, 1) -> -1", "weight(0, 4, 0) -> -1", "wed(0) -> 0",
            "had(0) -> 0", "had(4) -> 0", "brought(0) -> -1", "coin(50) -> 50", "end(0) -> 0", "end(1) -> -1", "row() -> -6",
            "text() -> -6", "fault() -> 0");
    }

    private static void thing() {
        String words = "A THING: its number. -1; -5.";
        for (String bad : new String[] {"-1, 0, 0, 1", "10, 0, 0, 1", "0, -1, 0, 1", "0, 100, 0, 1", "0, 0, -1, 1",
            "0, 0, 100, 1", "0, 0, 0, 0", "0, 0, 0, 201", "-1, 100, -1, 0"}) {
            refuses(2, words, -1, BASE, "thing(" + bad + ")");
            says(2, words, "thing(" + bad + ") -> -1", "count(0) -> 0", "thing(9, 99, 99, 200) -> 0", "status() -> 0");
        }
        refuses(2, words, -5, BASE, "thing(1, 1, 1, 1)");
    }

    private static void put() {
        String words = "WANTED (what 0), WORTH (1), EXTRA (2), PRICE (3) of a THING: what it was. -1; -2.";
        says(3, words, "thing(4, 30, 20, 10)", "put(0, 0, 0) -> 4", "put(0, 0, 9) -> 0", "put(0, 0, 9) -> 9",
            "heap(0, 0, 0, 0, 2) -> 9", "put(0, 1, 0) -> 30", "put(0, 1, 99) -> 0", "heap(9, 0, 0, 0, 0) -> 891",
            "put(0, 2, 0) -> 20", "put(0, 2, 99) -> 0", "heap(10, 0, 0, 0, 0) -> 990", "put(0, 3, 1) -> 10",
            "put(0, 3, 200) -> 1", "put(0, 3, 1) -> 200", "put(0, 2, 5) -> 99", "put(0, 1, 6) -> 99", "put(0, 0, 7) -> 9");
        for (String bad : new String[] {"0, 0, -1", "0, 0, 10", "0, 1, -1", "0, 1, 100", "0, 2, -1", "0, 2, 100", "0, 3, 0",
            "0, 3, 201", "0, 4, 1", "0, -1, 1", "4, 0, 10", "-1, 4, 1"}) {
            refuses(3, words, -1, BASE, "put(" + bad + ")");
        }
        for (String bad : new String[] {"4, 0, 9", "4, 3, 200", "-1, 1, 1", "2147483647, 1, 1", "-2147483648, 2, 0"}) {
            refuses(3, words, -2, BASE, "put(" + bad + ")");
        }
        says(3, words, "put(0, 0, 0) -> -2", "thing(1, 1, 1, 1)", "put(0, 0, 0) -> 1", "put(1, 0, 0) -> -2");
    }

    private static void instead() {
        String words = "INSTEAD of a THING another one by hundredths (other NONE: none, hundredths 0): 0. -1; -2 (the same one,"
            + " too).";
        says(4, words, "thing(1, 50, 0, 1)", "thing(0, 0, 0, 1)", "instead(0, 1, 100) -> 0", "heap(0, 1, 0, 0, 0) -> 50",
            "instead(0, -1, 1) -> -1", "instead(0, -1, 100) -> -1", "instead(0, -1, -1) -> -1", "heap(0, 1, 0, 0, 0) -> 50",
            "instead(0, -1, 0) -> 0", "heap(0, 1, 0, 0, 0) -> 0", "heap(0, 1, 0, 0, 2) -> 1", "instead(0, -1, 0) -> 0",
            "instead(1, 0, 7) -> 0");
        for (String bad : new String[] {"0, 1, -1", "0, 1, 101", "0, -1, 1", "0, 0, 101", "4, 1, 101", "4, -1, 1"}) {
            refuses(4, words, -1, BASE, "instead(" + bad + ")");
        }
        for (String bad : new String[] {"4, 1, 0", "-1, 1, 100", "0, 4, 50", "0, -2, 0", "0, 0, 50", "3, 3, 0", "4, 4, 0",
            "-1, -1, 0", "4, -1, 0", "2147483647, 0, 0", "0, -2147483648, 5"}) {
            refuses(4, words, -2, BASE, "instead(" + bad + ")");
        }
    }

    private static void bonus() {
        String words = "BONUS of two THINGS: what it was. -1; -2 (the same one, too).";
        says(5, words, "thing(1, 0, 0, 1)", "thing(1, 0, 0, 1)", "thing(1, 0, 0, 1)", "bonus(0, 1, 5) -> 0",
            "bonus(1, 0, 200) -> 5", "bonus(0, 1, 0) -> 200", "bonus(0, 1, 1) -> 0", "bonus(0, 2, 2) -> 0",
            "bonus(2, 1, 3) -> 0", "bonus(1, 0, 1) -> 1", "bonus(2, 0, 2) -> 2", "bonus(1, 2, 3) -> 3",
            "heap(1, 1, 1, 0, 0) -> 6");
        for (String bad : new String[] {"0, 1, -1", "0, 1, 201", "0, 0, 201", "4, 9, -1"}) {
            refuses(5, words, -1, BASE, "bonus(" + bad + ")");
        }
        for (String bad : new String[] {"0, 4, 0", "4, 0, 200", "-1, 0, 9", "0, -1, 9", "0, 0, 9", "3, 3, 9", "-1, -1, 9",
            "2147483647, 0, 9"}) {
            refuses(5, words, -2, BASE, "bonus(" + bad + ")");
        }
    }

    private static void guest() {
        String words = "A GUEST: its number. -1; -5.";
        for (String bad : new String[] {"-1, 0, 0, 0", "26, 0, 0, 0", "0, -1, 0, 0", "0, 100, 0, 0", "0, 0, -1, 0",
            "0, 0, 201, 0", "0, 0, 0, -1", "0, 0, 0, 6", "26, 100, 201, 6"}) {
            refuses(6, words, -1, BASE, "guest(" + bad + ")");
            refuses(6, words, -1, FULL, "guest(" + bad + ")");
        }
        refuses(6, words, -5, FULL, "guest(25, 99, 200, 5)");
        refuses(6, words, -5, FULL, "guest(0, 0, 0, 0)");
    }

    private static void always() {
        String words = "A GUEST ALWAYS brings a THING (NONE: not): what it was. -2.";
        says(7, words, "thing(1, 1, 1, 1)", times(3, "thing(1, 1, 1, 1)"), "guest(0, 0, 0, 0)", "always(0, -1) -> -1",
            "always(0, 3) -> -1", "always(0, 0) -> 3", "always(0, 0) -> 0", "always(0, -1) -> 0", "always(0, -1) -> -1",
            "status() -> 0");
        for (String bad : new String[] {"7, 0", "-1, 0", "7, -1", "0, 4", "0, -2", "12, 4", "2147483647, 0",
            "0, -2147483648"}) {
            refuses(7, words, -2, BASE, "always(" + bad + ")");
        }
    }

    private static void sees() {
        String words = "SEES of a GUEST: what it was. -1; -2.";
        says(8, words, "guest(0, 0, 0, 0)", "sees(0, 0) -> 0", "sees(0, 1) -> 0", "sees(0, 1) -> 1", "sees(0, 0) -> 1",
            "sees(0, 0) -> 0");
        for (String bad : new String[] {"0, -1", "0, 2", "7, 2", "-1, -1", "0, 2147483647"}) {
            refuses(8, words, -1, BASE, "sees(" + bad + ")");
        }
        for (String bad : new String[] {"7, 0", "7, 1", "-1, 1", "12, 0", "-2147483648, 1"}) {
            refuses(8, words, -2, BASE, "sees(" + bad + ")");
        }
    }

    private static void pair() {
        String words = "-2; -3 the same one, one of both is WITH another one.";
        for (String bad : new String[] {"7, 0", "0, 7", "-1, 0", "0, -2", "7, -1", "-1, -1", "7, 7", "3, 7", "7, 3",
            "2147483647, 0", "0, -2147483648"}) {
            refuses(9, words, -2, BASE, "pair(" + bad + ")");
        }
        for (String bad : new String[] {"0, 0", "3, 3", "6, 6", "0, 3", "3, 0", "0, 4", "4, 0", "3, 5", "4, 6"}) {
            refuses(9, words, -3, BASE, "pair(" + bad + ")");
        }
        says(9, words, times(4, "guest(0, 0, 9, 0)"), "pair(0, 1) -> 0", "pair(2, 3) -> 0", "pair(0, 2) -> -3",
            "pair(1, 3) -> -3", "pair(0, 1) -> 0", "pair(1, 0) -> 0", "pair(3, 2) -> 0", "count(7) -> 2", "count(3) -> 2",
            "of(1, 6) -> 0", "of(2, 6) -> 3", "status() -> 0");
        String nobody = "(other NONE: it with nobody any more, nor the one it was WITH): 0.";
        says(9, nobody, times(4, "guest(0, 0, 9, 0)"), "pair(0, -1) -> 0", "pair(0, 1)", "pair(2, 3)", "pair(1, -1) -> 0",
            "of(0, 6) -> -1", "of(1, 6) -> -1", "of(2, 6) -> 3", "of(3, 6) -> 2", "of(0, 8) -> 9", "of(1, 8) -> 9",
            "count(3) -> 3", "pair(1, -1) -> 0", "pair(2, -1) -> 0", "count(3) -> 4", "pair(3, 0) -> 0", "of(0, 6) -> 3",
            "of(0, 7) -> 1", "of(3, 7) -> 0");
    }

    private static void coin() {
        String words = "COIN: what it was. -1.";
        says(10, words, "coin(0) -> 50", "coin(100) -> 0", "coin(100) -> 100", "coin(1) -> 100", "coin(99) -> 1");
        for (String bad : new String[] {"-1", "101", "2147483647", "-2147483648"}) {
            refuses(10, words, -1, BASE, "coin(" + bad + ")");
        }
    }

    private static void of() {
        String words = "Of a GUEST 0 LETTER, 1 AGE, 2 PURSE, 3 SORT, 4 ALWAYS, 5 SEES, 6 WITH, 7 whether it is a GIVER (1, 0), 8"
            + " what that has to pay (0 if it is none). NOTHING (-1000) without.";
        says(11, words, "thing(1, 1, 1, 1)", "guest(25, 99, 200, 5)", "of(0, 0) -> 25", "of(0, 1) -> 99", "of(0, 2) -> 200",
            "of(0, 3) -> 5", "of(0, 4) -> -1", "of(0, 5) -> 0", "of(0, 6) -> -1", "of(0, 7) -> 1", "of(0, 8) -> 200",
            "of(0, 9) -> -1000", "of(0, -1) -> -1000", "of(0, 2147483647) -> -1000", "of(1, 0) -> -1000", "of(-1, 0) -> -1000",
            "of(1, 9) -> -1000", "of(-2147483648, 8) -> -1000", "guest(1, 2, 3, 4)", "pair(0, 1)", "always(0, 0)",
            "sees(0, 1)", "of(0, 4) -> 0", "of(0, 5) -> 1", "of(0, 6) -> 1", "of(0, 7) -> 1", "of(0, 8) -> 203",
            "of(0, 2) -> 200", "of(1, 0) -> 1", "of(1, 1) -> 2", "of(1, 2) -> 3", "of(1, 3) -> 4", "of(1, 4) -> -1",
            "of(1, 5) -> 0", "of(1, 6) -> 0", "of(1, 7) -> 0", "of(1, 8) -> 0", "status() -> 0", "count(6) -> 0");
    }

    private static void feed() {
        String words = "Twenty bytes come behind the TAPE, four of each number, the highest first: how many it has.";
        // 25 99 200 5, then others one behind the other.
        says(12, words, "feed(425969669, 16909060, 84281089, 151653122, 218499075) -> 20", "row() -> 5", "late() -> 0",
            "of(0, 0) -> 25", "of(0, 1) -> 99", "of(0, 2) -> 200", "of(0, 3) -> 5", "of(1, 0) -> 1", "of(1, 1) -> 2",
            "of(1, 2) -> 3", "of(1, 3) -> 4", "of(2, 0) -> 5", "of(2, 1) -> 6", "of(2, 2) -> 7", "of(2, 3) -> 1",
            "of(3, 0) -> 9", "of(3, 1) -> 10", "of(3, 2) -> 11", "of(3, 3) -> 2", "of(4, 0) -> 13", "of(4, 1) -> 6",
            "of(4, 2) -> 8", "of(4, 3) -> 3");
        says(12, words, "feed(-1, 0, -1, 0, -2147483648) -> 20", "feed(16843009, -1, -1, -1, -1) -> 40", "row() -> 3",
            "late() -> 7", "of(2, 0) -> 1");
        String most = "NONE, if there would be more than 400.";
        String[] nineteen = times(19, "feed(16843009, 0, 0, 0, 0)");
        says(12, most, nineteen, "count(4) -> 380", "feed(0, 0, 0, 0, 0) -> 400", "feed(0, 0, 0, 0, 0) -> -1",
            "count(4) -> 400", "end(399) -> 399", "feed(0, 0, 0, 0, 0) -> -1", "count(4) -> 399", "end(381) -> 381",
            "feed(0, 0, 0, 0, 0) -> -1", "count(4) -> 381", "end(380) -> 380", "feed(1, 1, 1, 1, 1) -> 400", "status() -> 0",
            "count(5) -> 0", "count(8) -> 0", "row() -> 12", "late() -> 88");
    }

    private static void endOfTape() {
        String words = "The TAPE has its first n bytes alone: n. NONE, if it has not so many, or n is below 0.";
        says(13, words, "end(0) -> 0", "end(1) -> -1", "end(-1) -> -1", "feed(1, 2, 3, 4, 5)", "end(21) -> -1",
            "end(-1) -> -1", "count(4) -> 20", "end(20) -> 20", "end(19) -> 19", "end(20) -> -1", "count(4) -> 19",
            "end(-2147483648) -> -1", "end(2147483647) -> -1", "count(4) -> 19", "end(1) -> 1", "end(0) -> 0", "end(1) -> -1",
            "status() -> 0", "count(5) -> 0");
        // What was cut is gone: other bytes come in its place.
        says(13, words, "feed(16909060, -1, -1, -1, -1)", "end(4) -> 4", "feed(84281089, 0, 0, 0, 0) -> 24", "end(8) -> 8",
            "row() -> 2", "of(0, 1) -> 2", "of(1, 0) -> 5", "of(1, 1) -> 6");
    }

    private static void row() {
        String words = "A ROW of GUESTS, the TAPE is empty then: how many came. -6 the TAPE is empty.";
        says(14, words, "row() -> -6", "status() -> -6", "count(9) -> 1", "tape:\1\1\1\1\2\2\2\2", "row() -> 2",
            "count(4) -> 0", "status() -> 0", "row() -> -6", "count(9) -> 2", "count(1) -> 2", "tape:\1", "row() -> 0",
            "status() -> 0", "count(4) -> 0", "tape:\1\1\1\1", "end(0)", "row() -> -6");
        refuses(14, words, -6, rows(BASE, "end(0)"), "row()");
        refuses(14, words, -6, rows(FULL, "end(0)"), "row()");
        says(14, words, times(12, "guest(0, 0, 0, 0)"), "tape:\1\1\1\1", "row() -> 0", "status() -> 0", "count(8) -> 0",
            "late() -> 1", "count(4) -> 0");
    }

    private static void late() {
        String words = "How many were LATE in the latest row() that was not REFUSED (0 ahead of any).";
        says(15, words, "late() -> 0", "row() -> -6", "late() -> 0", "tape:\377\377\377\377\1", "row() -> 0", "late() -> 2",
            "row() -> -6", "late() -> 2", "guest(26, 0, 0, 0) -> -1", "late() -> 2", "tape:coin 1", "text() -> 0",
            "late() -> 2", "tape:\1\1\1\1", "row() -> 1", "late() -> 0");
    }

    private static void text() {
        String words = "-5 (ahead of reading it; the TAPE is empty then, too); -6 (blanks alone: FAULT at the end).";
        refuses(16, words, -5, FULL, "text()", "end(0)");
        refuses(16, words, -5, rows(FULL, "tape:likes 1;coin 2"), "text()", "end(0)");
        refuses(16, words, -5, rows(FULL, "end(0)"), "text()");
        says(16, words, FULL, "tape:likes", "text() -> -5", "count(4) -> 0", "fault() -> -1", "count(2) -> 6", "status() -> -5",
            "back(0)", "tape:likes", "text() -> -6", "fault() -> 5", "tape:coin 5", "text() -> 5", "way(3, 5) -> -1");
        says(16, words, "text() -> -6", "fault() -> 0", "tape: ", "text() -> -6", "fault() -> 1", "count(4) -> 0", "tape:    ",
            "text() -> -6", "fault() -> 4", "tape:" + " ".repeat(400), "text() -> -6", "fault() -> 400", "count(4) -> 0",
            "count(9) -> 4", "count(2) -> 0");
        says(16, "The TAPE, which is empty then, becomes a TEXT: its number.", "tape:coin 1", "text() -> 0", "count(4) -> 0",
            "text() -> -6", "tape:coin 1", "text() -> 1", "count(2) -> 2", "tape:coin 1?", "text() -> -6", "count(4) -> 0",
            "count(2) -> 2", "tape:coin 2", "text() -> 2", "count(4) -> 0");
    }

    private static void fault() {
        String words = "FAULT of the latest text() that read a TEXT: its place; NONE without.";
        says(17, words, "fault() -> -1", "tape:x", "fault() -> -1", "text() -> -6", "fault() -> 0", "tape:coin 1",
            "fault() -> 0", "text() -> 0", "fault() -> -1", "tape:coin", "text() -> -6", "fault() -> 4", "row() -> -6",
            "fault() -> 4", "way(9, 0) -> -1", "fault() -> 4");
        // With no room nothing is read: FAULT stays.
        says(17, words, "tape:coin 1", "text()", "tape:coin 1", "text()", "tape:coin 1", "text()", "tape:coin 1", "text()",
            "tape:coin 1", "text()", "tape:coin 1 1", "text() -> -6", "fault() -> 7", "image(0)", "tape:coin 1", "text() -> 5",
            "fault() -> -1", "tape:coin", "text() -> -5", "fault() -> -1", "back(0)", "tape:?", "text() -> -6", "fault() -> 0");
    }

    private static void way() {
        String words = "The WAY of a SORT (NONE: none): which was. -1; -2.";
        says(18, words, "tape:coin 1", "text()", "tape:coin 2", "text()", "way(0, -1) -> -1", "way(0, 0) -> -1",
            "way(0, 1) -> 0", "way(0, 1) -> 1", "way(0, -1) -> 1", "way(5, 1) -> -1", "way(5, 0) -> 1", "way(0, -1) -> -1",
            "status() -> 0");
        for (String bad : new String[] {"-1, 0", "6, 0", "6, -1", "6, 5", "-1, -2", "2147483647, 0"}) {
            refuses(18, words, -1, BASE, "way(" + bad + ")");
        }
        for (String bad : new String[] {"0, 5", "0, -2", "5, 6", "0, 2147483647", "0, -2147483648"}) {
            refuses(18, words, -2, BASE, "way(" + bad + ")");
        }
        refuses(18, words, -2, FULL, "way(0, 6)");
    }

    private static void weight() {
        String words = "WEIGHT of a choice (THING, 4 COIN) for a GIVER, so many struck (0 .. 12 of that THING): 0 also for what"
            + " it can't pay.";
        String[] told = rows(PARTY, "tape:likes 5+thing+struck;coin 3", "text() -> 0", "way(0, 0)");
        says(19, words, told, "weight(0, 0, 0) -> 5", "weight(0, 1, 0) -> 6", "weight(1, 1, 0) -> 0", "weight(0, 4, 0) -> 3",
            "weight(0, 0, 12) -> 5", "sees(0, 1)", "weight(0, 0, 0) -> 5", "weight(0, 0, 1) -> 6", "weight(0, 0, 12) -> 17",
            "weight(0, 1, 12) -> 18", "weight(0, 0, 13) -> -1", "weight(0, 0, -1) -> -1", "weight(0, 4, 12) -> 3",
            "weight(0, 4, 13) -> -1", "weight(0, 4, -1) -> -1", "weight(1, 1, 13) -> -1");
        String none = "NONE (no GIVER, too).";
        says(19, none, told, "weight(0, 2, 0) -> -1", "weight(0, 3, 0) -> -1", "weight(0, 5, 0) -> -1", "weight(0, -1, 0) -> -1",
            "weight(2, 0, 0) -> -1", "weight(-1, 0, 0) -> -1", "weight(0, 2147483647, 0) -> -1",
            "weight(-2147483648, 4, 0) -> -1", "pair(0, 1)", "weight(1, 0, 0) -> -1", "weight(1, 4, 0) -> -1",
            "weight(0, 0, 0) -> 5", "status() -> 0", "count(5) -> 0");
        String alone = "By CLAUSES alone, also for one who ALWAYS brings a THING; COIN has 1, if all are 0.";
        says(19, alone, told, "always(0, 1)", "weight(0, 0, 0) -> 5", "weight(0, 1, 0) -> 6", "weight(0, 4, 0) -> 3",
            "always(1, 1)", "weight(1, 1, 0) -> 0", "way(0, -1)", "weight(0, 1, 0) -> 0", "weight(0, 4, 0) -> 1",
            "tape:likes 1 if thing=0;coin 0", "text() -> 1", "way(0, 1)", "weight(0, 4, 0) -> 0", "put(0, 3, 31)",
            "weight(0, 4, 0) -> 1", "weight(0, 0, 0) -> 0");
    }

    private static void heap() {
        String words = "VALUE (what 0), DOUBLED (1), MISSING (2) of a HEAP with so many of THINGS 0 .. 3 (0 .. 12 each; of THINGS"
            + " that are not there 0) and no MONEY. NONE.";
        says(20, words, PARTY, "heap(0, 0, 0, 0, 0) -> 0", "heap(12, 12, 0, 0, 0) -> 265", "heap(12, 12, 0, 0, 1) -> 21",
            "heap(0, 1, 0, 0, 2) -> 2", "heap(13, 0, 0, 0, 0) -> -1", "heap(0, 13, 0, 0, 0) -> -1", "heap(-1, 0, 0, 0, 0) -> -1",
            "heap(0, -1, 0, 0, 0) -> -1", "heap(0, 0, 1, 0, 0) -> -1", "heap(0, 0, 0, 1, 0) -> -1", "heap(0, 0, -1, 0, 0) -> -1",
            "heap(0, 0, 0, 0, 3) -> -1", "heap(0, 0, 0, 0, -1) -> -1", "heap(2147483647, 0, 0, 0, 0) -> -1",
            "thing(1, 1, 1, 1)", "heap(0, 0, 12, 0, 0) -> 12", "heap(0, 0, 13, 0, 0) -> -1", "heap(0, 0, 0, 1, 0) -> -1",
            "thing(1, 1, 1, 1)", "heap(0, 0, 0, 12, 0) -> 12", "heap(0, 0, 0, 13, 0) -> -1", "heap(12, 12, 12, 12, 1) -> 43",
            "status() -> 0", "count(5) -> 0");
    }

    private static void meanAndNone() {
        String none = "MEAN of VALUE (what 0), DOUBLED (1), MISSING (2). NONE.";
        says(21, none, PARTY, "mean(0) -> 2900", "mean(1) -> 0", "mean(2) -> 300", "mean(3) -> -1", "mean(-1) -> -1",
            "mean(2147483647) -> -1", "mean(-2147483648) -> -1", "status() -> 0");
        String chance = "The chance that none of a THING is there. NONE.";
        says(22, chance, PARTY, "none(0) -> 1000000", "none(1) -> 1000000", "none(2) -> -1", "none(3) -> -1", "none(4) -> -1",
            "none(-1) -> -1", "none(2147483647) -> -1", "thing(0, 0, 0, 1)", "none(2) -> 1000000", "status() -> 0");
    }

    private static void together() {
        String words = "TOGETHER: the VALUE (what 0), how many ways (1; 1,000,000,000 at most), DOUBLED (2), MISSING (3) by the"
            + " FIRST. NONE.";
        says(23, words, PARTY, "together(0) -> 80", "together(1) -> 1", "together(2) -> 0", "together(3) -> 1",
            "together(4) -> -1", "together(-1) -> -1", "together(2147483647) -> -1");
        says(23, words, times(4, "thing(0, 0, 0, 1)"), times(12, "guest(0, 0, 1, 0)"), "together(0) -> 0",
            "together(1) -> 244140625", "together(2) -> 12", "together(3) -> 0", "put(0, 0, 1)", "together(1) -> 244140625",
            "together(2) -> 11", "put(3, 0, 1)", "together(2) -> 11", "together(3) -> 1", "coin(100)", "together(0) -> 12",
            "together(1) -> 1", "together(2) -> 0");
    }

    private static void bringsAndDear() {
        String brings = "What a GIVER brings in the FIRST (4 COIN). NONE.";
        says(24, brings, PARTY, "brings(0) -> 1", "brings(1) -> 0", "brings(2) -> -1", "brings(-1) -> -1",
            "brings(2147483647) -> -1", "put(0, 3, 30)", "brings(0) -> 0", "brings(1) -> 4", "pair(0, 1)", "brings(0) -> 0",
            "brings(1) -> -1", "pair(1, -1)", "brings(1) -> 4");
        String dear = "How much less the VALUE of TOGETHER would be at best, if this GIVER brought that (THING it can pay, 4 COIN;"
            + " who ALWAYS brings a THING that alone). NONE.";
        // 80 at best; GIVER 0 with THING 0 comes to 50 and COIN of 14, with COIN to 15 and 50.
        says(25, dear, PARTY, "dear(0, 1) -> 0", "dear(0, 0) -> 16", "dear(0, 4) -> 15", "dear(1, 0) -> 0", "dear(1, 1) -> -1",
            "dear(1, 4) -> 16", "dear(0, 2) -> -1", "dear(0, 3) -> -1", "dear(0, 5) -> -1", "dear(0, -1) -> -1",
            "dear(2, 4) -> -1", "dear(-1, 4) -> -1", "dear(-2147483648, 4) -> -1", "dear(0, 2147483647) -> -1", "always(1, 1)",
            "dear(1, 1) -> 0", "dear(1, 4) -> -1", "dear(1, 0) -> -1", "dear(0, 0) -> 0", "dear(0, 1) -> 20", "pair(0, 1)",
            "dear(1, 1) -> -1", "dear(1, 4) -> -1", "dear(0, 4) -> 21");
        says(25, dear, "guest(0, 0, 9, 0)", "dear(0, 4) -> 0", "dear(0, 0) -> -1");
    }

    private static void loss() {
        says(26, "`int loss()`: LOSS.", "loss() -> 0", PARTY, "loss() -> 5100", "always(0, 1)", "always(1, 0)", "loss() -> 0",
            "status() -> 0");
    }

    private static void blind() {
        String words = "BLIND for m GIVERS: the MEAN in hundredths, cut (choice NONE), tenths of a choice (THING, 4 COIN). NONE"
            + " (no THINGS, too).";
        says(27, words, "blind(1, -1) -> -1", "blind(1, 0) -> -1", "blind(1, 4) -> -1", "guest(0, 0, 9, 0)",
            "blind(1, 4) -> -1", "thing(1, 50, 5, 20)", "blind(1, -1) -> 5000", "blind(1, 0) -> 10", "blind(1, 4) -> 0",
            "blind(1, 1) -> -1", "blind(1, 3) -> -1", "blind(1, 5) -> -1", "blind(1, -2) -> -1", "blind(8, -1) -> 8500",
            "blind(0, -1) -> -1", "blind(9, -1) -> -1", "blind(-1, 0) -> -1", "blind(2147483647, 0) -> -1",
            "blind(1, 2147483647) -> -1", "thing(1, 49, 0, 1)", "blind(1, 0) -> 10", "blind(1, 1) -> 0", "status() -> 0");
    }

    private static void rule() {
        String words = "BEST RULE: its VALUE (thing NONE), the bound of a THING. NONE (no THINGS, too).";
        says(28, words, "rule(-1) -> -1", "rule(0) -> -1", "guest(0, 0, 9, 0)", "rule(-1) -> -1", "thing(1, 50, 5, 9)",
            "rule(-1) -> 50", "rule(0) -> 1", "rule(1) -> -1", "rule(3) -> -1", "rule(4) -> -1", "rule(-2) -> -1",
            "rule(2147483647) -> -1", "rule(-2147483648) -> -1", "thing(0, 0, 0, 1)", "rule(0) -> 1", "rule(1) -> 1",
            "rule(2) -> -1", "status() -> 0");
    }

    private static void letters() {
        String words = "VALUE by a RULE with these bounds (of THINGS that are there; others 0). NONE.";
        says(29, words, PARTY, "letters(0, 0, 0, 0) -> 29", "letters(5, 6, 0, 0) -> 64", "letters(0, 1, 0, 0) -> 44",
            "letters(1, 6, 0, 0) -> 64", "letters(0, 26, 0, 0) -> 44", "letters(26, 26, 0, 0) -> 55",
            "letters(27, 27, 0, 0) -> -1", "letters(0, 27, 0, 0) -> -1", "letters(-1, 0, 0, 0) -> -1",
            "letters(0, -1, 0, 0) -> -1", "letters(1, 0, 0, 0) -> -1", "letters(26, 25, 0, 0) -> -1",
            "letters(0, 0, 1, 0) -> -1", "letters(0, 0, 0, 1) -> -1", "letters(0, 0, -1, 0) -> -1",
            "letters(26, 26, 26, 26) -> -1", "letters(2147483647, 2147483647, 0, 0) -> -1", "thing(1, 7, 0, 1)",
            "letters(0, 0, 26, 0) -> 7", "letters(1, 1, 0, 0) -> -1", "letters(1, 1, 1, 0) -> 64", "status() -> 0");
        says(29, words, "letters(0, 0, 0, 0) -> 0", "guest(0, 0, 9, 0)", "letters(0, 0, 0, 0) -> 4", "letters(1, 0, 0, 0) -> -1",
            "letters(0, 0, 0, 26) -> -1");
    }

    private static void rest() {
        String words = "REST: VALUE (what 0), rounds till none goes on, that one too (1), DOUBLED (2), MISSING (3). NONE";
        says(30, words, PARTY, "rest(0) -> 64", "rest(1) -> 2", "rest(2) -> 0", "rest(3) -> 2", "rest(4) -> -1",
            "rest(-1) -> -1", "rest(2147483647) -> -1", "always(0, 0)", "always(1, 0)", "rest(0) -> 55", "rest(1) -> 1",
            "rest(2) -> 1", "rest(3) -> 2", "status() -> 0");
    }

    private static void find() {
        String words = "What a GIVER brings at REST (4 COIN). NONE.";
        // GIVER 0 goes to THING 0 first; GIVER 1 can't pay THING 1.
        says(31, words, PARTY, "find(0) -> 0", "find(1) -> 4", "find(2) -> -1", "find(-1) -> -1", "find(2147483647) -> -1",
            "always(1, 0)", "find(0) -> 1", "find(1) -> 0", "pair(0, 1)", "find(0) -> 0", "find(1) -> -1");
    }

    private static void wed() {
        String words = "A WEDDING, kept as the latest: its VALUE. -1.";
        for (String bad : new String[] {"-1", "1000001", "2147483647", "-2147483648"}) {
            refuses(32, words, -1, BASE, "wed(" + bad + ")");
        }
        says(32, words, PARTY, "wed(-1) -> -1", "had(4) -> -1", "wed(0) -> 29", "had(4) -> 29", "wed(1000000) -> 29",
            "always(0, 1)", "had(1) -> 0", "wed(7) -> 44", "had(1) -> 1", "had(4) -> 14", "wed(1000001) -> -1",
            "always(1, 0)", "had(1) -> 1", "had(0) -> 0", "round(1, 7) -> 80", "had(0) -> 0", "had(4) -> 14", "wed(7) -> 80",
            "had(0) -> 1");
    }

    private static void hadAndBrought() {
        String had = "Of the latest WEDDING how many of a THING there are, MONEY (4). NONE.";
        says(33, had, "had(0) -> -1", "had(4) -> -1", PARTY, "always(0, 0)", "had(0) -> -1", "wed(0) -> 64", "had(0) -> 1",
            "had(1) -> 0", "had(2) -> 0", "had(3) -> 0", "had(4) -> 14", "had(5) -> -1", "had(-1) -> -1",
            "had(2147483647) -> -1", "had(-2147483648) -> -1", "always(1, 0)", "had(0) -> 1", "wed(0) -> 55", "had(0) -> 2",
            "had(4) -> 0");
        says(33, had, "wed(0) -> 0", "had(0) -> 0", "had(4) -> 0");
        String brought = "What a GUEST brought to the latest WEDDING (4 COIN); NONE.";
        says(34, brought, "brought(0) -> -1", PARTY, "brought(0) -> -1", "always(0, 1)", "wed(0)", "brought(0) -> 1",
            "brought(1) -> 4", "brought(2) -> -1", "brought(11) -> -1", "brought(12) -> -1", "brought(-1) -> -1",
            "brought(2147483647) -> -1", "guest(0, 0, 0, 0)", "brought(2) -> -1", "always(0, 0)", "pair(0, 1)",
            "brought(0) -> 1", "brought(1) -> 4", "wed(0)", "brought(0) -> 0", "brought(1) -> -1", "brought(2) -> 4");
        says(34, brought, times(12, "guest(0, 0, 0, 0)"), "wed(0) -> 0", "brought(11) -> 4", "brought(12) -> -1");
    }

    private static void round() {
        String words = "VALUES of n WEDDINGS (1 .. 100) one behind the other, the first with a SEED, together.";
        says(35, words, PARTY, "round(1, 0) -> 29", "round(100, 0) -> 2900", "round(1, 1000000) -> 29", "round(0, 0) -> -1",
            "round(101, 0) -> -1", "round(-1, 0) -> -1", "round(1, -1) -> -1", "round(1, 1000001) -> -1",
            "round(2147483647, 0) -> -1", "round(1, -2147483648) -> -1", "round(1, 1000000) -> 29", "had(4) -> -1", "brought(0) -> -1", "status() -> 0",
            "count(5) -> 0");
    }

    private static void change() {
        String words = "CHANGED of a HEAP without MONEY at a LOSS 0 .. 100: what VALUE is more (what 0; 0 if no change makes it"
            + " more), THING given (1), THING had for it (2).";
        says(36, words, PARTY, "change(2, 0, 0, 0, 0, 0) -> 25", "change(2, 0, 0, 0, 100, 0) -> 0",
            "change(2, 0, 0, 0, 49, 0) -> 1", "change(2, 0, 0, 0, 50, 0) -> 0", "change(2, 0, 0, 0, 49, 1) -> 0",
            "change(2, 0, 0, 0, 49, 2) -> 1", "change(2, 0, 0, 0, -1, 0) -> -1", "change(2, 0, 0, 0, 101, 0) -> -1",
            "change(2, 0, 0, 0, 0, 3) -> -1", "change(2, 0, 0, 0, 0, -1) -> -1", "change(13, 0, 0, 0, 0, 0) -> -1",
            "change(-1, 0, 0, 0, 0, 0) -> -1", "change(0, 13, 0, 0, 0, 0) -> -1", "change(2, 0, 1, 0, 0, 0) -> -1",
            "change(2, 0, 0, 1, 0, 0) -> -1", "change(12, 1, 0, 0, 0, 0) -> 25", "change(12, 12, 0, 0, 0, 0) -> 0");
        String none = "NONE (no change that makes it more for 1, 2, too).";
        says(36, none, PARTY, "change(2, 0, 0, 0, 50, 1) -> -1", "change(2, 0, 0, 0, 50, 2) -> -1",
            "change(0, 0, 0, 0, 0, 1) -> -1", "change(1, 2, 0, 0, 0, 1) -> -1", "change(1, 2, 0, 0, 0, 2) -> -1",
            "change(1, 2, 0, 0, 0, 0) -> 0", "change(0, 3, 0, 0, 0, 1) -> 1", "change(0, 3, 0, 0, 0, 2) -> 0",
            "change(0, 3, 0, 0, 0, 0) -> 40", "status() -> 0");
    }

    private static void sure() {
        String words = "The THING that most GIVERS (not those who ALWAYS bring one) like best (greatest WEIGHT of THINGS, nothing"
            + " struck, the lowest; above 0), of alike ones the first (what 0), of how many (1). NONE without.";
        String[] three = rows(times(3, "thing(1, 1, 1, 10)"), times(4, "guest(0, 0, 10, 0)"));
        says(37, words, "sure(0) -> -1", three, "sure(0) -> -1", "sure(1) -> -1", "tape:likes 0;coin 9", "text() -> 0",
            "way(0, 0)", "sure(0) -> -1", "sure(1) -> -1", "tape:likes 1;coin 9", "text() -> 1", "way(0, 1)", "sure(0) -> 0",
            "sure(1) -> 4", "tape:likes thing", "text() -> 2", "way(0, 2)", "sure(0) -> 2", "sure(1) -> 4", "put(2, 3, 11)",
            "sure(0) -> 1", "sure(2) -> -1", "sure(-1) -> -1",
            "put(1, 3, 11)", "sure(0) -> -1", "sure(1) -> -1", "sure(2) -> -1", "sure(-1) -> -1",
            "sure(2147483647) -> -1", "status() -> 0");
        // Two like THING 2, two THING 1: the first of them; then one of those ALWAYS brings it.
        says(37, words, times(3, "thing(1, 1, 1, 10)"), "guest(0, 0, 10, 2)", "guest(0, 0, 10, 1)", "guest(0, 0, 10, 2)",
            "guest(0, 0, 10, 1)", "tape:likes 7 if thing=sort;likes 3 if thing<sort", "text() -> 0", "way(1, 0)", "way(2, 0)",
            "sure(0) -> 1", "sure(1) -> 2", "always(1, 1)", "sure(0) -> 2", "sure(1) -> 2", "always(0, 1)", "sure(0) -> 1",
            "sure(1) -> 1", "always(2, 2)", "always(3, 2)", "sure(0) -> -1", "sure(1) -> -1", "always(3, -1)", "sure(1) -> 1",
            "pair(3, 2)", "sure(0) -> -1");
        says(37, words, three, "tape:likes 2+struck-thing", "text() -> 0", "way(0, 0)", times(4, "sees(0, 1)"), "sure(0) -> 0",
            "sure(1) -> 4", "pair(0, 1)", "pair(2, 3)", "sure(1) -> 2");
        says(37, words, "thing(1, 1, 1, 1)", "guest(0, 0, 1, 0)", "sees(0, 1)", "tape:likes struck", "text() -> 0", "way(0, 0)",
            "sure(0) -> -1", "tape:likes 1-struck", "text() -> 1", "way(0, 1)", "sure(0) -> 0", "sure(1) -> 1",
            "tape:likes 0-struck", "text() -> 2", "way(0, 2)", "sure(0) -> -1", "sure(1) -> -1");
    }

    private static void imageAndBack() {
        for (String bad : new String[] {"-1", "2", "2147483647", "-2147483648"}) {
            refuses(38, "IMAGE k is kept: 0; -1.", -1, BASE, "image(" + bad + ")");
            refuses(39, "BACK to IMAGE k: 0. -1; -2 it was not kept.", -1, BASE, "back(" + bad + ")");
        }
        refuses(39, "BACK to IMAGE k: 0. -1; -2 it was not kept.", -2, BASE, "back(1)");
        says(38, "IMAGE k is kept: 0; -1.", "image(0) -> 0", "image(0) -> 0", "image(1) -> 0", "back(0) -> 0", "back(1) -> 0");
        says(39, "BACK to IMAGE k: 0. -1; -2 it was not kept.", "back(0) -> -2", "back(1) -> -2", "image(1) -> 0",
            "back(0) -> -2", "back(1) -> 0", "back(1) -> 0", "back(0) -> -2", "back(2) -> -1", "status() -> -1", "image(0) -> 0",
            "back(0) -> 0", "status() -> 0", "count(6) -> 4", "count(5) -> 1");
    }

    private static void count() {
        String words = "0 THINGS, 1 GUESTS, 2 TEXTS, 3 GIVERS, 4 bytes of the TAPE, 5 .. 9 how many calls were REFUSED by -1, -2,"
            + " -3, -5, -6 (IMAGES do not keep that). NONE for others.";
        says(40, words, "count(-1) -> -1", "count(10) -> -1", "count(2147483647) -> -1", "count(-2147483648) -> -1",
            "count(0) -> 0", "count(9) -> 0");
        says(40, words, FULL, "count(0) -> 4", "count(1) -> 12", "count(2) -> 6", "count(3) -> 11", "count(4) -> 3",
            "count(5) -> 0", "count(6) -> 0", "count(7) -> 0", "count(8) -> 0", "count(9) -> 1", "thing(9, 9, 9, 0) -> -1",
            "coin(-1) -> -1", "count(5) -> 2", "always(12, 0) -> -2", "count(6) -> 1", "pair(0, 0) -> -3", "count(7) -> 1",
            "thing(1, 1, 1, 1) -> -5", "guest(1, 1, 1, 1) -> -5", "text() -> -5", "count(8) -> 3", "row() -> -6",
            "count(9) -> 2", "back(0) -> 0", "count(5) -> 2", "count(6) -> 1", "count(7) -> 1", "count(8) -> 3",
            "count(9) -> 2", "count(10) -> -1", "count(1) -> 6", "count(3) -> 5");
        // What answers NONE is not REFUSED.
        says(40, words, "feed(0, 0, 0, 0, 0)", "end(21) -> -1", "of(0, 0) -> -1000", "weight(0, 0, 0) -> -1",
            "heap(1, 0, 0, 0, 0) -> -1", "mean(3) -> -1", "none(0) -> -1", "together(4) -> -1", "brings(0) -> -1",
            "dear(0, 4) -> -1", "blind(0, 0) -> -1", "rule(0) -> -1", "letters(1, 0, 0, 0) -> -1", "rest(4) -> -1",
            "find(0) -> -1", "had(0) -> -1", "brought(0) -> -1", "round(0, 0) -> -1", "change(0, 0, 0, 0, 101, 0) -> -1",
            "sure(2) -> -1", "count(10) -> -1", "count(5) -> 0", "count(6) -> 0", "count(7) -> 0", "count(8) -> 0",
            "count(9) -> 0", "status() -> 0");
    }

    private static void status() {
        String words = "What the latest call of thing, put, instead, bonus, guest, always, sees, pair, coin, row, text, way, wed,"
            + " image, back was REFUSED by; 0 if it was not, or ahead of any.";
        String[][] good = {{"thing(1, 1, 1, 1)", "thing(1, 1, 1, 0)", "-1"}, {"put(0, 0, 0)", "put(9, 0, 0)", "-2"},
            {"instead(0, -1, 0)", "instead(0, 0, 0)", "-2"}, {"bonus(0, 1, 4)", "bonus(0, 1, 201)", "-1"},
            {"guest(0, 0, 0, 0)", "guest(0, 0, 0, 9)", "-1"}, {"always(0, -1)", "always(0, 9)", "-2"},
            {"sees(0, 0)", "sees(0, 2)", "-1"}, {"pair(0, 1)", "pair(0, 0)", "-3"}, {"coin(50)", "coin(101)", "-1"},
            {"row()", "row()", "-6"}, {"text()", "text()", "-6"}, {"way(0, -1)", "way(0, 9)", "-2"}, {"wed(0)", "wed(-1)", "-1"},
            {"image(0)", "image(2)", "-1"}, {"back(0)", "back(1)", "-2"}};
        String[] before = rows(times(2, "thing(1, 1, 1, 1)"), times(3, "guest(0, 0, 0, 0)"), "image(0)");
        for (String[] g : good) {
            String tape = g[0].equals("text()") ? "tape:coin 1" : "tape:\1\1\1\1";
            says(41, words, before, "status() -> 0", "put(9, 0, 0) -> -2", tape, g[0], "status() -> 0", "end(0)",
                "pair(0, 0) -> -3", g[1] + " -> " + g[2], "status() -> " + g[2], tape, g[0], "status() -> 0");
        }
        // No other call changes it.
        String[] others = rows("of(0, 0)", "of(9, 9)", "feed(0, 0, 0, 0, 0)", "end(0)", "end(9)", "late()", "fault()",
            "weight(0, 4, 0)", "weight(9, 9, 9)", "heap(1, 0, 0, 0, 0)", "heap(99, 0, 0, 0, 0)", "mean(0)", "mean(9)", "none(0)",
            "none(9)", "together(0)", "together(9)", "brings(0)", "brings(9)", "dear(0, 4)", "dear(9, 9)", "loss()",
            "blind(1, -1)", "blind(9, 9)", "rule(-1)", "rule(9)", "letters(0, 0, 0, 0)", "letters(9, 0, 0, 0)", "rest(0)",
            "rest(9)", "find(0)", "find(9)", "had(0)", "had(9)", "brought(0)", "brought(99)", "round(1, 1)", "round(0, 0)",
            "change(1, 0, 0, 0, 1, 0)", "change(99, 0, 0, 0, 1, 0)", "sure(0)", "sure(9)", "count(0)", "count(99)", "status()");
        for (String other : others) {
            says(41, words, other, "status() -> 0", before, other, "status() -> 0", "pair(0, 0) -> -3", other, "status() -> -3",
                "coin(101) -> -1", other, "status() -> -1", "count(5) -> 1", "count(7) -> 1");
        }
        says(41, words, times(4, "thing(1, 1, 1, 1)"), "thing(1, 1, 1, 1) -> -5", "status() -> -5", "status() -> -5",
            "back(0) -> -2", "status() -> -2");
    }
}
