/** "What it is", "The public face" and Terms I: each sentence that names a boundary, in the document's order. */
public final class TermsOneTest extends Sentences {
    private static final String ORDER = "The first of these in that order.";

    public static void main(String[] args) {
        calls();
        thingNumbers();
        insteadAndBonusNumbers();
        guestNumbers();
        guestAtFirst();
        coinNumbers();
        codes();
        orderOfRefusals();
        valueUpToWanted();
        madeUpBySpareOnes();
        madeUpInOrder();
        extraBonusMoney();
        doubledAndMissing();
        whatCanBePaid();
        alwaysWhateverThePrice();
        twoAreOneGiver();
        end("Terms I");
    }

    private static void calls() {
        String words = "An object is used for at most 512 calls after it has been made";
        says(1, words, "thing(1, 50, 5, 20) -> 0", "guest(0, 0, 20, 0) -> 0", times(509, "heap(1, 0, 0, 0, 0) -> 50"),
            "together(0) -> 50");
        String[] textAndBack = rows("tape:likes 1", "text() -> 0", "back(0) -> 0");
        Object[] again = new Object[102];
        java.util.Arrays.fill(again, textAndBack);
        says(16, words, "image(0) -> 0", rows(again), "count(2) -> 0");
        says(38, words, (Object) times(512, "image(0) -> 0"));
        says(1, words, times(256, "thing(0, 0, 0, 0) -> -1"), "count(5) -> 256", times(254, "back(1) -> -2"),
            "count(6) -> 254");
    }

    private static void thingNumbers() {
        says(2, "THINGS 0 .. 3 (4 at most)", "put(0, 0, 0) -> -2", "thing(1, 1, 1, 1) -> 0", "thing(1, 1, 1, 1) -> 1",
            "thing(1, 1, 1, 1) -> 2", "put(3, 0, 0) -> -2", "thing(7, 1, 1, 1) -> 3", "thing(1, 1, 1, 1) -> -5",
            "count(0) -> 4", "put(3, 0, 0) -> 7", "put(4, 0, 0) -> -2", "put(-1, 0, 0) -> -2");
        says(2, "WANTED 0 .. 9", "thing(-1, 0, 0, 1) -> -1", "thing(10, 0, 0, 1) -> -1", "count(0) -> 0",
            "thing(0, 0, 0, 1) -> 0", "heap(0, 0, 0, 0, 2) -> 0", "thing(9, 0, 0, 1) -> 1", "heap(0, 0, 0, 0, 2) -> 9");
        says(2, "WORTH 0 .. 99 each", "thing(1, -1, 0, 1) -> -1", "thing(1, 100, 0, 1) -> -1", "count(0) -> 0",
            "thing(1, 0, 0, 1) -> 0", "thing(9, 99, 0, 1) -> 1", "heap(1, 9, 0, 0, 0) -> 891");
        says(2, "EXTRA 0 .. 99 (of each beyond)", "thing(0, 0, -1, 1) -> -1", "thing(0, 0, 100, 1) -> -1",
            "count(0) -> 0", "thing(0, 0, 0, 1) -> 0", "thing(0, 0, 99, 1) -> 1", "heap(12, 0, 0, 0, 0) -> 0",
            "heap(0, 12, 0, 0, 0) -> 1188");
        says(2, "PRICE 1 .. 200", "thing(0, 0, 0, 0) -> -1", "thing(0, 0, 0, -1) -> -1", "thing(0, 0, 0, 201) -> -1",
            "count(0) -> 0", "thing(0, 0, 0, 1) -> 0", "thing(0, 0, 0, 200) -> 1", "guest(0, 0, 0, 0)",
            "guest(0, 0, 1, 0)", "guest(0, 0, 199, 0)", "guest(0, 0, 200, 0)", "dear(0, 0) -> -1", "dear(1, 1) -> -1",
            "dear(2, 1) -> -1", "coin(0)", "dear(1, 0) -> 0", "dear(3, 1) -> 0");
        says(2, "-1 a number that can't be", "thing(2147483647, 0, 0, 1) -> -1", "thing(-2147483648, 0, 0, 1) -> -1",
            "thing(0, 2147483647, 0, 1) -> -1", "thing(0, 0, 2147483647, 1) -> -1", "thing(0, 0, 0, 2147483647) -> -1",
            "guest(2147483647, 0, 0, 0) -> -1", "guest(0, 2147483647, 0, 0) -> -1", "guest(0, 0, 2147483647, 0) -> -1",
            "guest(0, 0, 0, 2147483647) -> -1", "guest(0, 0, -2147483648, 0) -> -1", "coin(2147483647) -> -1",
            "wed(2147483647) -> -1", "count(5) -> 12");
    }

    private static void insteadAndBonusNumbers() {
        says(4, "INSTEAD of a THING another one does by so many hundredths 0 .. 100 (none at first)",
            "thing(1, 80, 0, 1)", "thing(0, 0, 5, 1)", "heap(0, 1, 0, 0, 0) -> 5", "heap(0, 1, 0, 0, 2) -> 1",
            "instead(0, 1, 100) -> 0", "heap(0, 1, 0, 0, 0) -> 80", "instead(0, 1, 101) -> -1", "instead(0, 1, -1) -> -1",
            "heap(0, 1, 0, 0, 0) -> 80", "instead(0, 1, 99) -> 0", "heap(0, 1, 0, 0, 0) -> 79", "instead(0, 1, 1) -> 0",
            "heap(0, 1, 0, 0, 0) -> 0", "instead(0, 1, 0) -> 0", "heap(0, 1, 0, 0, 0) -> 0", "heap(0, 1, 0, 0, 1) -> 0",
            "heap(0, 1, 0, 0, 2) -> 0");
        says(4, "INSTEAD of a THING another one does by so many hundredths 0 .. 100 (none at first)",
            "thing(1, 80, 0, 1)", "thing(0, 0, 5, 1)", "thing(0, 0, 7, 1)", "instead(0, 1, 50) -> 0",
            "heap(0, 1, 1, 0, 0) -> 47", "instead(0, 2, 50) -> 0", "heap(0, 1, 1, 0, 0) -> 45");
        says(5, "BONUS 0 .. 200 of two THINGS that are both there (0 at first)", "thing(1, 0, 0, 1)", "thing(1, 0, 0, 1)",
            "heap(1, 1, 0, 0, 0) -> 0", "bonus(0, 1, 200) -> 0", "heap(1, 1, 0, 0, 0) -> 200", "bonus(1, 0, 201) -> -1",
            "bonus(0, 1, -1) -> -1", "heap(1, 1, 0, 0, 0) -> 200", "heap(12, 0, 0, 0, 0) -> 0",
            "heap(0, 12, 0, 0, 0) -> 0", "heap(0, 0, 0, 0, 0) -> 0", "bonus(1, 0, 1) -> 200",
            "heap(12, 12, 0, 0, 0) -> 1", "bonus(0, 1, 0) -> 1", "heap(1, 1, 0, 0, 0) -> 0");
    }

    private static void guestNumbers() {
        says(6, "GUESTS 0 .. 11 (12 at most)", "sees(0, 1) -> -2", "guest(0, 0, 0, 0) -> 0", times(10, "guest(0, 0, 0, 0)"),
            "sees(11, 1) -> -2", "guest(0, 0, 0, 0) -> 11", "guest(0, 0, 0, 0) -> -5", "count(1) -> 12",
            "sees(11, 1) -> 0", "sees(12, 1) -> -2", "sees(-1, 1) -> -2");
        says(6, "LETTER 0 .. 25", "guest(-1, 0, 0, 0) -> -1", "guest(26, 0, 0, 0) -> -1", "guest(0, 0, 0, 0) -> 0",
            "guest(25, 0, 0, 0) -> 1", "of(0, 0) -> 0", "of(1, 0) -> 25");
        says(6, "AGE 0 .. 99", "guest(0, -1, 0, 0) -> -1", "guest(0, 100, 0, 0) -> -1", "guest(0, 0, 0, 0) -> 0",
            "guest(0, 99, 0, 0) -> 1", "of(0, 1) -> 0", "of(1, 1) -> 99");
        says(6, "PURSE 0 .. 200", "guest(0, 0, -1, 0) -> -1", "guest(0, 0, 201, 0) -> -1", "guest(0, 0, 0, 0) -> 0",
            "guest(0, 0, 200, 0) -> 1", "of(0, 2) -> 0", "of(1, 2) -> 200", "together(0) -> 100");
        says(6, "SORT 0 .. 5", "guest(0, 0, 0, -1) -> -1", "guest(0, 0, 0, 6) -> -1", "guest(0, 0, 0, 0) -> 0",
            "guest(0, 0, 0, 5) -> 1", "of(0, 3) -> 0", "of(1, 3) -> 5", "tape:coin 3", "text() -> 0", "way(5, 0) -> -1",
            "weight(0, 4, 0) -> 1", "weight(1, 4, 0) -> 3");
    }

    private static void guestAtFirst() {
        says(7, "one ALWAYS brings a THING, or not (at first)", "thing(1, 9, 9, 1)", "guest(0, 0, 10, 0)", "of(0, 4) -> -1",
            "brings(0) -> 0", "dear(0, 4) -> 4", "always(0, 0) -> -1", "of(0, 4) -> 0", "dear(0, 4) -> -1",
            "always(0, -1) -> 0", "of(0, 4) -> -1", "dear(0, 4) -> 4");
        says(8, "SEES the list 1, 0 (0 at first)", "guest(0, 0, 0, 0)", "of(0, 5) -> 0", "sees(0, 1) -> 0",
            "of(0, 5) -> 1", "sees(0, 2) -> -1", "sees(0, -1) -> -1", "of(0, 5) -> 1", "sees(0, 1) -> 1",
            "sees(0, 0) -> 1", "of(0, 5) -> 0");
        says(9, "gives WITH another one, or not (at first; each is then WITH the other)", "guest(0, 0, 0, 0)",
            "guest(0, 0, 0, 0)", "of(0, 6) -> -1", "of(1, 6) -> -1", "pair(1, 0) -> 0", "of(0, 6) -> 1",
            "of(1, 6) -> 0", "pair(0, -1) -> 0", "of(0, 6) -> -1", "of(1, 6) -> -1");
    }

    private static void coinNumbers() {
        says(10, "COIN 0 .. 100 hundredths (50 at first)", "guest(0, 0, 200, 0)", "together(0) -> 100", "coin(0) -> 50",
            "together(0) -> 0", "coin(100) -> 0", "together(0) -> 200", "coin(101) -> -1", "coin(-1) -> -1",
            "together(0) -> 200", "coin(1) -> 100", "together(0) -> 2");
    }

    private static void codes() {
        says(41, "-2 there is no such THING, GUEST, TEXT, IMAGE", "put(0, 0, 0) -> -2", "sees(0, 0) -> -2", "way(0, 0) -> -2",
            "back(0) -> -2", "count(6) -> 4", "thing(1, 1, 1, 1)", "guest(0, 0, 0, 0)", "tape:coin 1", "text()", "image(0)",
            "put(0, 0, 0) -> 1", "sees(0, 0) -> 0", "way(0, 0) -> -1", "back(0) -> 0", "count(6) -> 4");
        says(41, "-3 it can't be by what stands", times(3, "guest(0, 0, 0, 0)"), "pair(1, 1) -> -3", "pair(0, 1) -> 0",
            "pair(1, 2) -> -3", "status() -> -3", "count(7) -> 2");
        says(41, "-5 no room", times(4, "thing(1, 1, 1, 1)"), times(12, "guest(0, 0, 0, 0)"), "thing(1, 1, 1, 1) -> -5",
            "guest(0, 0, 0, 0) -> -5", "status() -> -5", "count(8) -> 2");
        says(41, "-6 a TEXT, a ROW that can't be.", "text() -> -6", "row() -> -6", "tape:coin", "text() -> -6", "status() -> -6",
            "tape:\377", "row() -> 0", "status() -> 0", "count(9) -> 3");
    }

    private static void orderOfRefusals() {
        String[] four = times(4, "thing(1, 1, 1, 1)");
        String[] twelve = times(12, "guest(0, 0, 0, 0)");
        says(2, ORDER, four, "thing(10, 1, 1, 1) -> -1", "thing(1, 100, 1, 1) -> -1", "thing(1, 1, 100, 1) -> -1",
            "thing(1, 1, 1, 0) -> -1", "thing(1, 1, 1, 1) -> -5");
        says(3, ORDER, "put(0, 4, 1) -> -1", "put(0, -1, 1) -> -1", "put(-1, 0, 10) -> -1", "put(9, 3, 0) -> -1",
            "put(9, 3, 1) -> -2");
        says(4, ORDER, "instead(0, 1, 101) -> -1", "instead(0, 0, 101) -> -1", "instead(0, -1, 1) -> -1",
            "instead(-1, -2, -1) -> -1", "instead(0, 1, 100) -> -2", "instead(0, 0, 0) -> -2", "instead(0, -1, 0) -> -2");
        says(5, ORDER, "bonus(0, 1, 201) -> -1", "bonus(0, 0, -1) -> -1", "bonus(0, 0, 200) -> -2", "bonus(0, 1, 0) -> -2");
        says(6, ORDER, twelve, "guest(26, 0, 0, 0) -> -1", "guest(0, 100, 0, 0) -> -1", "guest(0, 0, 201, 0) -> -1",
            "guest(0, 0, 0, 6) -> -1", "guest(25, 99, 200, 5) -> -5");
        says(8, ORDER, "sees(0, 2) -> -1", "sees(-1, -1) -> -1", "sees(0, 1) -> -2");
        says(9, ORDER, "pair(0, 0) -> -2", twelve, "pair(12, 12) -> -2", "pair(-1, -1) -> -2", "pair(0, 1) -> 0",
            "pair(0, 12) -> -2", "pair(12, 0) -> -2", "pair(0, -2) -> -2", "pair(0, 0) -> -3", "pair(0, 2) -> -3");
        says(16, ORDER, times(6, "image(0)"), "tape:coin 1", "text() -> 0", "tape:coin 1", "text() -> 1", "tape:coin 1",
            "text() -> 2", "tape:coin 1", "text() -> 3", "tape:coin 1", "text() -> 4", "tape:coin 1", "text() -> 5",
            "tape:coin", "text() -> -5", "text() -> -5", "count(8) -> 2", "count(9) -> 0");
        says(18, ORDER, "way(6, 0) -> -1", "way(-1, -2) -> -1", "way(0, 0) -> -2", "way(0, -2) -> -2");
        says(39, ORDER, "back(2) -> -1", "back(-1) -> -1", "back(0) -> -2", "back(1) -> -2");
    }

    private static void valueUpToWanted() {
        says(20, "of each THING WORTH for as many as are there, up to WANTED; what is beyond is SPARE.",
            "thing(2, 10, 3, 1)", "heap(0, 0, 0, 0, 0) -> 0", "heap(1, 0, 0, 0, 0) -> 10", "heap(2, 0, 0, 0, 0) -> 20",
            "heap(3, 0, 0, 0, 0) -> 23", "heap(12, 0, 0, 0, 0) -> 50", "put(0, 0, 0) -> 2", "heap(1, 0, 0, 0, 0) -> 3",
            "put(0, 0, 9) -> 0", "heap(9, 0, 0, 0, 0) -> 90", "heap(10, 0, 0, 0, 0) -> 93");
        says(20, "of each THING WORTH for as many as are there, up to WANTED; what is beyond is SPARE.",
            "thing(1, 10, 1, 1)", "thing(2, 20, 2, 1)", "thing(3, 30, 3, 1)", "thing(4, 40, 4, 1)",
            "heap(1, 2, 3, 4, 0) -> 300", "heap(2, 3, 4, 5, 0) -> 310");
    }

    private static void madeUpBySpareOnes() {
        String[] party = rows("thing(3, 33, 0, 1)", "thing(1, 10, 4, 1)", "instead(0, 1, 50)");
        // Each that is made up is worth 16: 33 times 50 through 100, cut.
        says(20, "is made up by SPARE ones of that which does INSTEAD, as far as they go", party,
            "heap(0, 0, 0, 0, 0) -> 0", "heap(0, 1, 0, 0, 0) -> 10", "heap(0, 1, 0, 0, 2) -> 3",
            "heap(0, 2, 0, 0, 0) -> 26", "heap(0, 2, 0, 0, 2) -> 2", "heap(0, 4, 0, 0, 0) -> 58",
            "heap(0, 4, 0, 0, 2) -> 0", "heap(0, 4, 0, 0, 1) -> 0", "heap(0, 5, 0, 0, 0) -> 62",
            "heap(0, 5, 0, 0, 1) -> 1");
        says(20, "what it LACKS still (WANTED less those there)", party, "heap(2, 3, 0, 0, 0) -> 96",
            "heap(2, 3, 0, 0, 1) -> 1", "heap(3, 3, 0, 0, 0) -> 117", "heap(3, 3, 0, 0, 1) -> 2",
            "heap(4, 2, 0, 0, 0) -> 113");
        says(20, "(these are not SPARE any more)", party, "put(1, 2, 99)", "heap(0, 2, 0, 0, 0) -> 26",
            "heap(0, 2, 0, 0, 1) -> 0", "instead(0, 1, 0)", "heap(0, 2, 0, 0, 0) -> 10", "heap(0, 2, 0, 0, 1) -> 0");
        says(20, "each WORTH of the lacking one times those hundredths through 100, cut", party,
            "heap(0, 3, 0, 0, 0) -> 42", "put(0, 1, 1)", "heap(0, 4, 0, 0, 0) -> 10", "instead(0, 1, 99)",
            "heap(0, 4, 0, 0, 0) -> 10", "instead(0, 1, 100)", "heap(0, 4, 0, 0, 0) -> 13", "put(0, 1, 99)",
            "heap(0, 4, 0, 0, 0) -> 307");
    }

    private static void madeUpInOrder() {
        String[] party = rows("thing(1, 10, 0, 1)", "thing(1, 90, 0, 1)", "thing(0, 0, 1, 1)");
        says(20, "THING by THING in order", party, "instead(1, 2, 100)", "instead(0, 2, 100)",
            "heap(0, 0, 1, 0, 0) -> 10", "heap(0, 0, 1, 0, 2) -> 1", "heap(0, 0, 2, 0, 0) -> 100",
            "heap(0, 0, 3, 0, 0) -> 101", "heap(1, 0, 1, 0, 0) -> 100");
        says(20, "THING by THING in order", "thing(1, 40, 0, 1)", "thing(1, 60, 1, 1)", "instead(0, 1, 50)",
            "instead(1, 0, 50)", "heap(2, 0, 0, 0, 0) -> 70", "heap(0, 2, 0, 0, 0) -> 80", "heap(0, 3, 0, 0, 0) -> 81",
            "heap(0, 3, 0, 0, 1) -> 1");
        // What makes up is no gift of the lacking THING: it can't go on to a third.
        says(20, "THING by THING in order", "thing(1, 40, 0, 1)", "thing(1, 60, 0, 1)", "thing(1, 9, 0, 1)",
            "instead(1, 0, 100)", "instead(2, 1, 100)", "heap(3, 0, 0, 0, 0) -> 100", "heap(3, 0, 0, 0, 1) -> 1",
            "heap(3, 0, 0, 0, 2) -> 1");
        says(20, "THING by THING in order", "thing(1, 40, 0, 1)", "thing(0, 0, 0, 1)", "thing(0, 0, 0, 1)",
            "thing(1, 60, 7, 1)", "instead(3, 0, 50)", "instead(0, 3, 50)", "heap(2, 0, 0, 0, 0) -> 70",
            "heap(0, 0, 0, 2, 0) -> 80");
    }

    private static void extraBonusMoney() {
        says(20, "Then EXTRA for each that is SPARE still", "thing(2, 10, 0, 1)", "thing(0, 0, 6, 1)", "instead(0, 1, 0)",
            "heap(0, 1, 0, 0, 0) -> 0", "heap(0, 2, 0, 0, 0) -> 0", "heap(0, 3, 0, 0, 0) -> 6",
            "heap(1, 3, 0, 0, 0) -> 22");
        says(20, "BONUS for each two THINGS of which one at least is there of both", times(4, "thing(0, 0, 0, 1)"),
            "bonus(0, 1, 1)", "bonus(0, 2, 2)", "bonus(3, 0, 4)", "bonus(1, 2, 8)", "bonus(1, 3, 16)", "bonus(3, 2, 32)",
            "heap(1, 1, 1, 1, 0) -> 63", "heap(12, 12, 12, 12, 0) -> 63", "heap(1, 1, 1, 0, 0) -> 11",
            "heap(1, 1, 0, 1, 0) -> 21", "heap(1, 0, 1, 1, 0) -> 38", "heap(0, 1, 1, 1, 0) -> 56",
            "heap(0, 0, 1, 1, 0) -> 32", "heap(9, 0, 0, 0, 0) -> 0");
        // One that does INSTEAD is there all the same; the one that it does for is not.
        says(20, "BONUS for each two THINGS of which one at least is there of both", "thing(1, 10, 0, 1)",
            "thing(0, 0, 0, 1)", "thing(1, 1, 0, 1)", "instead(0, 1, 100)", "bonus(1, 2, 7)", "bonus(0, 2, 90)",
            "heap(0, 1, 1, 0, 0) -> 18");
        says(23, "and the MONEY", "thing(1, 10, 0, 100)", "guest(0, 0, 100, 0)", "guest(0, 0, 99, 0)", "coin(10)",
            "together(0) -> 19", "heap(1, 0, 0, 0, 0) -> 10");
    }

    private static void doubledAndMissing() {
        says(20, "DOUBLED are those SPARE at last, MISSING what is LACKING at last.", "thing(2, 10, 0, 1)",
            "thing(1, 10, 0, 1)", "heap(0, 0, 0, 0, 1) -> 0", "heap(0, 0, 0, 0, 2) -> 3", "heap(2, 1, 0, 0, 1) -> 0",
            "heap(2, 1, 0, 0, 2) -> 0", "heap(3, 1, 0, 0, 1) -> 1", "heap(0, 4, 0, 0, 1) -> 3",
            "heap(0, 4, 0, 0, 2) -> 2", "instead(0, 1, 0)", "heap(0, 4, 0, 0, 1) -> 1", "heap(0, 4, 0, 0, 2) -> 0",
            "heap(0, 3, 0, 0, 1) -> 0", "heap(0, 3, 0, 0, 2) -> 0", "heap(0, 2, 0, 0, 2) -> 1",
            "heap(12, 12, 0, 0, 1) -> 21");
        says(20, "DOUBLED are those SPARE at last, MISSING what is LACKING at last.", times(4, "thing(9, 0, 0, 1)"),
            "heap(0, 0, 0, 0, 2) -> 36", "heap(9, 9, 9, 9, 2) -> 0", "heap(12, 12, 12, 12, 1) -> 12");
    }

    private static void whatCanBePaid() {
        says(25, "Each GUEST brings one THING with a PRICE not above its PURSE, or COIN", "thing(1, 50, 0, 20)",
            "guest(0, 0, 20, 0)", "guest(0, 0, 19, 0)", "dear(0, 0) -> 0", "dear(1, 0) -> -1", "dear(1, 4) -> 0",
            "together(0) -> 59", "together(1) -> 1", "brings(0) -> 0", "brings(1) -> 4", "put(0, 3, 19) -> 20",
            "dear(1, 0) -> 0", "together(0) -> 60");
        says(25, "Each GUEST brings one THING with a PRICE not above its PURSE, or COIN", "thing(1, 1, 0, 1)",
            "thing(1, 99, 0, 200)", "guest(0, 0, 0, 0)", "guest(0, 0, 200, 0)", "dear(0, 0) -> -1", "dear(0, 4) -> 0",
            "dear(1, 1) -> 1", "dear(1, 4) -> 0");
        says(23, "COIN: its PURSE times COIN through 100, cut, to the MONEY", "guest(0, 0, 199, 0)", "together(0) -> 99",
            "coin(99)", "together(0) -> 197", "coin(100)", "together(0) -> 199", "coin(0)", "together(0) -> 0");
        // Each is cut for itself.
        says(23, "COIN: its PURSE times COIN through 100, cut, to the MONEY", times(12, "guest(0, 0, 1, 0)"), "coin(99)",
            "together(0) -> 0", "coin(100)", "together(0) -> 12");
    }

    private static void alwaysWhateverThePrice() {
        says(7, "One who ALWAYS brings a THING brings that, whatever the PRICE.", "thing(1, 50, 5, 200)",
            "guest(0, 0, 0, 0)", "guest(0, 0, 200, 0)", "always(0, 0) -> -1", "brings(0) -> 0", "find(0) -> 0",
            "dear(0, 0) -> 0", "dear(0, 4) -> -1", "none(0) -> 0", "letters(0, 0, 0, 0) -> 150", "wed(0) -> 150",
            "brought(0) -> 0", "always(1, 0) -> -1", "together(0) -> 55", "together(1) -> 1");
    }

    private static void twoAreOneGiver() {
        says(9, "Two WITH one another are one GIVER with both PURSES together", "thing(1, 90, 0, 200)",
            "guest(0, 0, 100, 0)", "guest(0, 0, 99, 0)", "pair(0, 1)", "of(0, 8) -> 199", "dear(0, 0) -> -1",
            "put(0, 3, 199)", "dear(0, 0) -> 9", "together(0) -> 99");
        says(9, "Two WITH one another are one GIVER with both PURSES together", "guest(0, 0, 33, 0)",
            "guest(0, 0, 33, 0)", "together(0) -> 32", "pair(0, 1)", "together(0) -> 33", "pair(1, -1)",
            "together(0) -> 32");
        says(9, "Two WITH one another are one GIVER with both PURSES together", "guest(0, 0, 200, 0)",
            "guest(0, 0, 200, 0)", "pair(0, 1)", "of(0, 8) -> 400", "of(0, 2) -> 200", "coin(100)", "together(0) -> 400");
        says(9, "the lower one brings, as it is otherwise (LETTER, AGE, SORT, SEES, ALWAYS), the higher one nothing.",
            "thing(1, 90, 0, 20)", "guest(7, 70, 99, 2)", "guest(5, 60, 100, 1)", "pair(1, 0)",
            "tape:likes letter*100+age+sort+struck", "text() -> 0", "way(2, 0)", "weight(0, 0, 0) -> 772", "way(1, 0)",
            "way(2, -1)", "weight(0, 0, 0) -> 0", "weight(1, 0, 0) -> -1", "way(2, 0)", "sees(1, 1)",
            "weight(0, 0, 12) -> 772", "sees(0, 1)", "weight(0, 0, 12) -> 784");
        says(9, "the lower one brings, as it is otherwise (LETTER, AGE, SORT, SEES, ALWAYS), the higher one nothing.",
            "thing(1, 90, 0, 20)", "guest(7, 0, 99, 0)", "guest(5, 0, 101, 0)", "pair(1, 0)", "letters(6, 0, 0, 0) -> 100",
            "letters(7, 0, 0, 0) -> 100", "letters(8, 0, 0, 0) -> 90", "always(1, 0)", "dear(0, 4) -> 0",
            "letters(0, 0, 0, 0) -> 100", "always(0, 0)", "dear(0, 4) -> -1", "letters(0, 0, 0, 0) -> 90", "brings(0) -> 0",
            "brings(1) -> -1", "find(1) -> -1", "wed(0) -> 90", "brought(0) -> 0", "brought(1) -> -1");
        says(11, "GIVERS are all others, each for itself.", "count(3) -> 0", times(12, "guest(0, 0, 10, 0)"), "count(3) -> 12",
            "pair(11, 0)", "pair(10, 1)", "pair(9, 2)", "pair(8, 3)", "pair(7, 4)", "pair(6, 5)", "count(3) -> 6",
            "of(5, 7) -> 1", "of(6, 7) -> 0", "of(0, 7) -> 1", "of(11, 7) -> 0", "together(0) -> 60");
    }
}
