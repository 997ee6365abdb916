/** Terms III, what comes of it: each sentence that names a boundary, in the document's order. */
public final class TermsThreeTest extends Sentences {
    /** Two GIVERS with 100 each: THING 0 by a chance of 1 of 3, else COIN with 50. */
    private static final String[] THIRDS = rows("thing(1, 50, 5, 20)", "guest(0, 0, 100, 0)", "guest(9, 0, 100, 0)",
        "tape:likes 1;coin 2", "text() -> 0", "way(0, 0)");
    /** Two THINGS alike and three GIVERS whose COIN is 20. */
    private static final String[] THREE = rows("thing(1, 50, 5, 20)", "thing(1, 50, 5, 20)", "guest(0, 0, 40, 0)",
        "guest(5, 0, 40, 0)", "guest(9, 0, 40, 0)");

    public static void main(String[] args) {
        mean();
        chanceOfNone();
        together();
        firstOfThem();
        loss();
        blind();
        blindRows();
        rule();
        bestRule();
        restAtFirst();
        restRounds();
        weddingDraws();
        weddingWithoutDraws();
        weddingBySight();
        seeds();
        changed();
        changedBeforeInstead();
        firstChange();
        rowOfGuests();
        lateOnes();
        images();
        imagesKeepNot();
        imagesStay();
        end("Terms III");
    }

    private static void mean() {
        String words = "MEAN of all that can come of it, if each GIVER chooses by its CHANCES (nothing struck), exactly: of"
            + " VALUE, of DOUBLED, of MISSING, each in hundredths, cut";
        says(21, words, "mean(0) -> 0", "mean(1) -> 0", "mean(2) -> 0", "thing(9, 99, 99, 200)", "thing(4, 9, 9, 1)",
            "mean(0) -> 0", "mean(1) -> 0", "mean(2) -> 1300", "guest(0, 0, 0, 0)", "mean(0) -> 0", "mean(2) -> 1300");
        // Both bring it 1 of 9: 55 and one doubled; one 4 of 9: 100; none 4 of 9: 100 and one missing.
        says(21, words, THIRDS, "mean(0) -> 9500", "mean(1) -> 11", "mean(2) -> 44");
        says(21, words, THIRDS, "sees(0, 1)", "sees(1, 1)", "tape:likes 1+struck*999;coin 2", "text() -> 1", "way(0, 1)",
            "mean(0) -> 9500", "mean(1) -> 11", "mean(2) -> 44");
        says(21, words, THIRDS, "always(0, 0)", "mean(0) -> 8500", "mean(1) -> 33", "mean(2) -> 0", "always(1, 0)",
            "mean(0) -> 5500", "mean(1) -> 100");
        // 50 by 1 of 3, 100 by 2: 83 and a third.
        says(21, words, THIRDS, "pair(0, 1)", "mean(0) -> 8333", "mean(2) -> 66");
        // Whatever is chosen is worth 1: 12, not a bit less.
        says(21, words, "thing(0, 0, 1, 1)", "thing(0, 0, 1, 1)", times(12, "guest(0, 0, 1, 0)"), "coin(100)",
            "tape:likes 1;coin 1", "text() -> 0", "way(0, 0)", "mean(0) -> 1200", "mean(1) -> 800", "mean(2) -> 0");
        // WEIGHTS of 4991 and of 5000 together, twelve times: nothing of that may be lost.
        String[] twelve = rows(times(4, "thing(0, 0, 10, 1)"), times(12, "guest(0, 0, 10, 0)"), "coin(100)");
        says(21, words, twelve, "tape:likes 1000-thing;coin 997", "text() -> 0", "way(0, 0)", "mean(0) -> 12000",
            "mean(1) -> 960", "mean(2) -> 0");
        says(21, words, twelve, "tape:likes 1000;coin 1000", "text() -> 0", "way(0, 0)", "mean(0) -> 12000", "mean(1) -> 960",
            "none(3) -> 68719", "coin(0)", "mean(0) -> 9600", "put(0, 2, 0)", "put(1, 2, 0)", "put(2, 2, 0)", "put(3, 2, 25)",
            "mean(0) -> 6000", "put(3, 2, 99)", "mean(0) -> 23760");
        says(21, words, "thing(0, 0, 99, 1)", "guest(0, 0, 1, 0)", "coin(0)", "tape:likes 1;coin 1000", "text() -> 0",
            "way(0, 0)", "mean(0) -> 9", "mean(1) -> 0", "put(0, 2, 11)", "mean(0) -> 1", "put(0, 2, 10)", "mean(0) -> 0");
    }

    private static void chanceOfNone() {
        String words = "of a THING the chance that none of it is there, in millionths, cut";
        says(22, words, "thing(1, 1, 1, 1)", "none(0) -> 1000000", THIRDS[1], "none(0) -> 1000000");
        says(22, words, THIRDS, "none(0) -> 444444", "always(0, 0)", "none(0) -> 0", "always(0, -1)", "pair(0, 1)",
            "none(0) -> 666666");
        says(22, words, "thing(1, 1, 1, 1)", "guest(0, 0, 1, 0)", "tape:likes 1000;coin 1", "text() -> 0",
            "tape:likes 1;coin 1000", "text() -> 1", "way(0, 0)", "none(0) -> 999", "way(0, 1)", "none(0) -> 999000");
        says(22, words, "thing(1, 1, 1, 1)", times(12, "guest(0, 0, 1, 0)"), "tape:likes 1;coin 1", "text() -> 0", "way(0, 0)",
            "none(0) -> 244", "put(0, 3, 2)", "none(0) -> 1000000");
    }

    private static void together() {
        String words = "TOGETHER: choices of all GIVERS (each what it can; ALWAYS as it is) with the greatest VALUE of all";
        says(23, words, "together(0) -> 0", "together(1) -> 1", "together(2) -> 0", "together(3) -> 0", "thing(9, 9, 9, 9)",
            "together(0) -> 0", "together(1) -> 1", "together(3) -> 9");
        says(23, words, THREE, "together(0) -> 120", "together(1) -> 6", "together(2) -> 0", "together(3) -> 0");
        says(23, words, THREE, "put(0, 3, 41)", "together(0) -> 90", "together(3) -> 1", "put(0, 3, 40)",
            "together(0) -> 120");
        // Four THINGS, and twelve GIVERS who can pay the last one alone.
        says(23, words, times(3, "thing(1, 90, 0, 50)"), "thing(9, 10, 1, 20)", times(12, "guest(0, 0, 20, 0)"), "coin(10)",
            "together(0) -> 96", "together(1) -> 220", "together(2) -> 0", "together(3) -> 3", "brings(0) -> 3",
            "brings(8) -> 3", "brings(9) -> 4", "brings(11) -> 4", "dear(0, 4) -> 0", "coin(5)", "together(0) -> 93",
            "together(1) -> 299", "together(2) -> 3", "brings(11) -> 3", "dear(11, 3) -> 0", "coin(0)", "together(0) -> 93",
            "together(1) -> 1", "dear(11, 4) -> 1", "dear(0, 4) -> 1", "rest(0) -> 93", "find(0) -> 3", "find(11) -> 3",
            "coin(10)", "rest(0) -> 96", "find(8) -> 3", "find(9) -> 4", "find(11) -> 4", "rest(2) -> 0", "rest(3) -> 3");
        says(23, words, THREE, "always(0, 0)", "always(1, 0)", "together(0) -> 105", "together(1) -> 1", "together(2) -> 1",
            "always(2, 0)", "together(0) -> 60", "together(2) -> 2", "together(3) -> 1");
    }

    private static void firstOfThem() {
        String words = "the FIRST of them: GIVER by GIVER a lower THING ahead, COIN behind all.";
        says(24, words, THREE, "brings(0) -> 0", "brings(1) -> 1", "brings(2) -> 4");
        // A spare one is worth what COIN is: 20.
        says(24, words, THREE, "put(0, 2, 20)", "put(1, 2, 20)", "together(0) -> 120", "together(1) -> 12", "brings(0) -> 0",
            "brings(1) -> 0", "brings(2) -> 1", "together(2) -> 1", "together(3) -> 0");
        says(24, words, THREE, "put(0, 1, 20)", "put(1, 1, 20)", "put(0, 2, 0)", "put(1, 2, 0)", "together(0) -> 60",
            "brings(0) -> 0", "brings(1) -> 1", "brings(2) -> 4", "together(1) -> 13");
        says(24, words, THREE, "put(0, 1, 19)", "put(0, 2, 19)", "put(1, 1, 20)", "put(1, 2, 20)", "brings(0) -> 1",
            "brings(1) -> 1", "brings(2) -> 1", "together(1) -> 8", "put(1, 3, 41)", "brings(0) -> 4");
    }

    private static void loss() {
        String words = "The LOSS is a hundred times that VALUE less MEAN of VALUE (as it is told).";
        says(26, words, "loss() -> 0", THIRDS, "loss() -> 500", "pair(0, 1)", "loss() -> 1667", "always(0, 0)", "loss() -> 0");
    }

    private static void blind() {
        String words = "BLIND for m GIVERS (1 .. 8)";
        String[] two = rows("thing(1, 50, 0, 200)", "thing(1, 50, 0, 200)");
        says(27, words, two, "blind(0, -1) -> -1", "blind(-1, -1) -> -1", "blind(9, -1) -> -1", "blind(9, 0) -> -1",
            "blind(1, -1) -> 5000", "blind(2, -1) -> 7500", "blind(3, -1) -> 8750", "blind(8, -1) -> 9960",
            "blind(8, 0) -> 5", "blind(8, 1) -> 5", "blind(8, 4) -> 0");
        String all = "all choose THINGS 0 .. (that there are) and COIN (worth nothing) by the same tenths, whatever the PRICES";
        says(27, all, two, "guest(0, 0, 0, 0)", "coin(100)", "blind(1, -1) -> 5000", "blind(1, 0) -> 10",
            "blind(1, 2) -> -1", "blind(1, 3) -> -1", "blind(1, 4) -> 0", "thing(1, 60, 0, 200)", "thing(1, 70, 0, 200)",
            "blind(1, 3) -> 10", "blind(1, 0) -> 0", "blind(1, -1) -> 7000");
        // Others' purses, ways and what they ALWAYS bring are nothing to it.
        says(27, all, two, "guest(0, 0, 200, 0)", "always(0, 1)", "blind(1, 0) -> 10", "blind(1, 1) -> 0");
        says(27, all, "thing(0, 0, 99, 1)", "blind(8, -1) -> 79200", "thing(9, 99, 0, 1)", "blind(8, -1) -> 79200",
            "blind(8, 0) -> 10", "bonus(0, 1, 200)", "blind(8, -1) -> 99043", "blind(8, 0) -> 5");
    }

    private static void blindRows() {
        String words = "the tenths (of all 10 together) with the greatest MEAN of VALUE, exactly";
        String[] two = rows("thing(1, 50, 0, 1)", "thing(1, 40, 0, 1)");
        // With six tenths of THING 0: it lacks by 16 of 100, THING 1 by 36 of 100.
        says(27, words, two, "blind(2, 0) -> 6", "blind(2, 1) -> 4", "blind(2, -1) -> 6760");
        says(27, words, two, "put(1, 1, 49)", "blind(2, 0) -> 5", "blind(2, -1) -> 7425", "put(1, 1, 51)",
            "blind(2, 0) -> 5", "blind(2, -1) -> 7575");
        String first = "of alike ones the first as rows, a greater number ahead.";
        says(27, first, times(4, "thing(0, 0, 0, 1)"), "blind(8, 0) -> 10", "blind(8, 1) -> 0", "blind(8, 2) -> 0",
            "blind(8, 3) -> 0", "blind(8, 4) -> 0", "blind(8, -1) -> 0");
        says(27, first, "thing(1, 50, 0, 1)", "thing(1, 50, 0, 1)", "blind(1, 0) -> 10", "blind(1, 1) -> 0");
        // THING 0 for nothing, 1 and 2 alike: none of the tenths may go to THING 0.
        says(27, first, "thing(0, 0, 0, 1)", "thing(1, 50, 0, 1)", "thing(1, 50, 0, 1)", "blind(1, 0) -> 0",
            "blind(1, 1) -> 10", "blind(1, 2) -> 0", "blind(1, 4) -> 0");
        // Of three GIVERS 4, 3, 3 and the like are alike; the greater number stands ahead.
        says(27, first, "thing(1, 50, 0, 1)", "thing(1, 50, 0, 1)", "thing(1, 50, 0, 1)", "blind(3, 0) -> 4",
            "blind(3, 1) -> 3", "blind(3, 2) -> 3");
    }

    private static void rule() {
        String words = "RULE by letters: bounds 0 .. 26, one for each THING, none below the one ahead of it";
        String[] four = times(4, "thing(1, 50, 5, 1)");
        says(29, words, four, "letters(0, 0, 0, 0) -> 0", "letters(26, 26, 26, 26) -> 0", "letters(0, 0, 0, 26) -> 0",
            "letters(0, 1, 1, 2) -> 0", "letters(27, 27, 27, 27) -> -1", "letters(0, 0, 0, 27) -> -1",
            "letters(-1, 0, 0, 0) -> -1", "letters(1, 0, 0, 0) -> -1", "letters(1, 1, 0, 0) -> -1",
            "letters(5, 6, 7, 6) -> -1", "letters(0, 5, 4, 5) -> -1");
        String brings = "a GIVER whose LETTER is below the first brings THING 0, else below the second 1, and so on; behind"
            + " all, or if it can't pay it, COIN (ALWAYS as it is).";
        String[] party = rows("thing(1, 50, 0, 10)", "thing(1, 60, 0, 20)", "thing(1, 70, 0, 30)", "thing(1, 80, 0, 40)",
            "guest(0, 0, 40, 0)");
        says(29, brings, party, "letters(0, 0, 0, 0) -> 20", "letters(1, 1, 1, 1) -> 50", "letters(0, 1, 1, 1) -> 60",
            "letters(0, 0, 1, 1) -> 70", "letters(0, 0, 0, 1) -> 80", "put(0, 3, 41)", "letters(1, 26, 26, 26) -> 20",
            "letters(0, 26, 26, 26) -> 60", "always(0, 0)", "letters(0, 26, 26, 26) -> 50", "letters(0, 0, 0, 0) -> 50");
        says(29, brings, "thing(1, 50, 0, 10)", "guest(25, 0, 40, 0)", "letters(26, 0, 0, 0) -> 50",
            "letters(25, 0, 0, 0) -> 20", "letters(0, 0, 0, 0) -> 20", "guest(24, 0, 40, 0)", "letters(25, 0, 0, 0) -> 70",
            "letters(24, 0, 0, 0) -> 40");
    }

    private static void bestRule() {
        String words = "BEST RULE: the bounds with the greatest VALUE, of alike ones the first as rows.";
        says(28, words, "thing(1, 50, 0, 10)", "thing(1, 60, 0, 10)", "rule(-1) -> 0", "rule(0) -> 0", "rule(1) -> 0",
            "guest(5, 0, 40, 0)", "rule(-1) -> 60", "rule(0) -> 0", "rule(1) -> 6", "guest(9, 0, 40, 0)", "rule(-1) -> 110",
            "rule(0) -> 6", "rule(1) -> 10", "guest(9, 0, 40, 0)", "rule(-1) -> 110", "rule(1) -> 10");
        says(28, words, "thing(1, 50, 0, 10)", "guest(25, 0, 40, 0)", "rule(0) -> 26", "put(0, 1, 20)", "rule(-1) -> 20",
            "rule(0) -> 0", "put(0, 1, 21)", "rule(0) -> 26", "always(0, 0)", "rule(-1) -> 21", "rule(0) -> 0",
            "always(0, -1)", "rule(0) -> 26", "coin(0)", "put(0, 1, 0)", "rule(-1) -> 0", "rule(0) -> 0");
        says(28, words, "thing(1, 50, 0, 10)", "guest(0, 0, 40, 0)", "rule(0) -> 1", "put(0, 3, 41)", "rule(-1) -> 20",
            "rule(0) -> 0");
        // THING 0 for the first letters though 1 is worth as much: its bound 0 is the first as rows.
        says(28, words, "thing(1, 50, 0, 10)", "thing(1, 50, 0, 10)", "thing(1, 50, 0, 10)", "thing(1, 50, 0, 10)",
            "guest(3, 0, 10, 0)", "rule(0) -> 0", "rule(1) -> 0", "rule(2) -> 0", "rule(3) -> 4", "rule(-1) -> 50");
        says(28, words, times(4, "thing(9, 10, 0, 1)"), "guest(25, 0, 1, 0)", "guest(0, 0, 1, 0)", "put(3, 1, 99)",
            "put(0, 1, 98)", "put(3, 0, 1)", "rule(-1) -> 197", "rule(0) -> 1", "rule(1) -> 1", "rule(2) -> 1",
            "rule(3) -> 26");
    }

    private static void restAtFirst() {
        String words = "REST: at first each GIVER brings COIN (ALWAYS as it is)";
        says(30, words, "rest(0) -> 0", "rest(1) -> 1", "rest(2) -> 0", "rest(3) -> 0", "thing(4, 9, 9, 9)", "rest(1) -> 1",
            "rest(3) -> 4");
        says(30, words, THREE, "put(0, 1, 20)", "put(1, 1, 20)", "rest(0) -> 60", "rest(1) -> 1", "rest(3) -> 2",
            "find(0) -> 4", "find(2) -> 4");
        says(30, words, THREE, "always(0, 1)", "always(1, 1)", "always(2, 1)", "rest(0) -> 60", "rest(1) -> 1",
            "rest(2) -> 2", "rest(3) -> 1", "find(0) -> 1");
    }

    private static void restRounds() {
        String words = "then round by round, GIVER by GIVER, each goes to the choice with the greatest VALUE of all, the"
            + " others as they are then";
        says(30, words, THREE, "rest(0) -> 120", "rest(1) -> 2", "rest(2) -> 0", "rest(3) -> 0", "find(0) -> 0",
            "find(1) -> 1", "find(2) -> 4");
        // GIVER 1 has THING 0 alone: it brings a spare one, so GIVER 0 goes on to THING 1 in the second round.
        says(30, words, "thing(1, 60, 1, 10)", "thing(1, 50, 0, 100)", "guest(0, 0, 100, 0)", "guest(0, 0, 10, 0)", "coin(0)",
            "rest(0) -> 110", "rest(1) -> 3", "find(0) -> 1", "find(1) -> 0", "rest(2) -> 0", "rest(3) -> 0");
        // GIVER 0 goes to what does instead, GIVER 1 then brings the THING itself: GIVER 0 goes back to COIN.
        says(30, words, "thing(1, 30, 0, 50)", "thing(0, 0, 0, 1)", "instead(0, 1, 50)", "guest(0, 0, 40, 0)",
            "guest(0, 0, 50, 0)", "coin(20)", "rest(0) -> 38", "rest(1) -> 3", "find(0) -> 4", "find(1) -> 0");
        String alike = "of alike ones what it has, else the lowest THING, COIN last; till none goes on in a round.";
        says(31, alike, THREE, "coin(0)", "find(0) -> 0", "find(1) -> 1", "find(2) -> 0", "rest(2) -> 1", "put(0, 2, 4)",
            "find(2) -> 1", "put(1, 2, 0)", "find(2) -> 0", "put(0, 2, 0)", "find(2) -> 4");
        // Together 50 more, but nobody goes alone.
        says(31, alike, THREE, "put(0, 1, 20)", "put(1, 1, 20)", "bonus(0, 1, 50)", "rest(0) -> 60", "together(0) -> 110",
            "put(1, 1, 21)", "rest(0) -> 111", "find(0) -> 1", "find(1) -> 0", "rest(1) -> 2");
    }

    /** From the SEED 0 the DRAWS are made of 12345, 628841, 621889: modulo 1000 they are 345, 841, 889. */
    private static void weddingDraws() {
        String words = "others a DRAW of all their WEIGHTS: the first choice (THINGS in order, COIN last) below whose WEIGHT"
            + " and those ahead together it is.";
        String[] party = rows("thing(1, 10, 0, 1)", "thing(1, 20, 0, 1)", "guest(0, 0, 2, 0)");
        String[] told = rows("text() -> 0", "way(0, 0)");
        says(32, words, party, "tape:likes 345 if thing=0;likes 655 if thing=1", told, "wed(0) -> 20", "brought(0) -> 1");
        says(32, words, party, "tape:likes 346 if thing=0;likes 654 if thing=1", told, "wed(0) -> 10", "brought(0) -> 0");
        says(32, words, party, "tape:likes 345 if thing=1;coin 655", told, "wed(0) -> 1", "brought(0) -> 4");
        says(32, words, party, "tape:likes 346 if thing=1;coin 654", told, "wed(0) -> 20", "brought(0) -> 1");
        says(32, words, party, "tape:likes 5 if thing=1", told, "wed(0) -> 20", "brought(0) -> 1");
        says(32, words, party, "tape:likes 200 if thing=0;likes 145 if thing=1;coin 655", told, "wed(0) -> 1");
        says(32, words, party, "tape:likes 200 if thing=0;likes 146 if thing=1;coin 654", told, "wed(0) -> 20");
        // What it can't pay has no WEIGHT in the DRAW: 12345 modulo 655 is 555.
        says(32, words, party, "put(0, 3, 3)", "tape:likes 345 if thing=0;likes 556 if thing=1;coin 99", told,
            "wed(0) -> 20", "weight(0, 0, 0) -> 0");
        says(32, words, party, "put(0, 3, 3)", "tape:likes 345 if thing=0;likes 555 if thing=1;coin 100", told, "wed(0) -> 1");
        says(32, words, times(4, "thing(1, 10, 0, 1)"), "guest(0, 0, 2, 0)",
            "tape:likes 345 if thing=2;likes 1 if thing=3;coin 654", told, "wed(0) -> 10", "brought(0) -> 3", "had(3) -> 1");
        // One who has COIN alone draws, too: the next one has 841.
        String[] second = rows(party, "guest(0, 0, 0, 0)", "pair(0, 1)", "pair(0, -1)", "guest(0, 0, 2, 1)");
        says(32, words, "thing(1, 10, 0, 1)", "thing(1, 20, 0, 1)", "guest(0, 0, 0, 1)", "guest(0, 0, 2, 0)",
            "tape:likes 841 if thing=0;likes 159 if thing=1", told, "wed(0) -> 20", "brought(1) -> 1");
        says(32, words, "thing(1, 10, 0, 1)", "thing(1, 20, 0, 1)", "guest(0, 0, 0, 1)", "guest(0, 0, 2, 0)",
            "tape:likes 842 if thing=0;likes 158 if thing=1", told, "wed(0) -> 10", "brought(1) -> 0");
        says(32, words, second, "tape:likes 889 if thing=0;likes 111 if thing=1", "text() -> 0", "way(1, 0)", "wed(0) -> 21",
            "brought(0) -> 4", "brought(1) -> 4", "brought(2) -> 1");
    }

    private static void weddingWithoutDraws() {
        String always = "one who ALWAYS brings a THING brings that (nothing is drawn)";
        String[] party = rows("thing(1, 10, 0, 1)", "thing(1, 20, 0, 1)", "guest(0, 0, 0, 1)", "guest(0, 0, 2, 0)");
        String[] told = rows("text() -> 0", "way(0, 0)");
        says(32, always, party, "always(0, 1)", "tape:likes 345 if thing=0;coin 655", told, "wed(0) -> 21",
            "brought(0) -> 1", "brought(1) -> 4");
        says(32, always, party, "always(0, 1)", "tape:likes 346 if thing=0;coin 654", told, "wed(0) -> 30", "brought(1) -> 0");
        String sees = "of alike ones the lowest THING, COIN last; nothing is drawn)";
        says(32, sees, party, "sees(0, 1)", "tape:likes 345 if thing=0;coin 655", told, "wed(0) -> 1", "brought(0) -> 4",
            "brought(1) -> 4");
        says(32, sees, party, "sees(0, 1)", "tape:likes 346 if thing=0;coin 654", told, "wed(0) -> 10", "brought(1) -> 0");
        // The higher one of two is no GIVER and draws nothing.
        says(32, "A WEDDING with a SEED: GIVERS in order of numbers; a DRAW for each", "thing(1, 10, 0, 1)",
            "guest(0, 0, 0, 1)", "guest(0, 0, 0, 1)", "guest(0, 0, 2, 0)", "pair(0, 1)",
            "tape:likes 841 if thing=0;coin 159", told, "wed(0) -> 1", "brought(0) -> 4", "brought(1) -> -1",
            "brought(2) -> 4", "tape:likes 842 if thing=0;coin 158", "text() -> 1", "way(0, 1)", "wed(0) -> 10");
    }

    private static void weddingBySight() {
        String words = "one who SEES the list brings what it can by which all that is struck, and that, has the greatest VALUE"
            + " (COIN by its MONEY; of alike ones the lowest THING, COIN last; nothing is drawn)";
        String[] seen = rows("sees(0, 1)", "sees(1, 1)", "sees(2, 1)");
        says(32, words, THREE, seen, "wed(0) -> 120", "brought(0) -> 0", "brought(1) -> 1", "brought(2) -> 4",
            "had(0) -> 1", "had(1) -> 1", "had(4) -> 20");
        says(32, words, THREE, seen, "put(0, 2, 20)", "wed(0) -> 120", "brought(2) -> 0", "put(1, 2, 21)", "wed(0) -> 121",
            "brought(2) -> 1", "put(1, 2, 20)", "wed(0) -> 120", "brought(2) -> 0", "coin(53)", "wed(0) -> 121",
            "brought(2) -> 4");
        says(32, words, THREE, seen, "put(0, 3, 41)", "wed(0) -> 90", "brought(0) -> 1", "brought(1) -> 4");
        // All that is struck counts: BONUS and INSTEAD with what the one ahead brought.
        says(32, words, THREE, seen, "put(0, 1, 51)", "put(1, 1, 10)", "bonus(0, 1, 11)", "wed(0) -> 92", "brought(1) -> 1",
            "bonus(0, 1, 9)", "wed(0) -> 91", "brought(1) -> 4");
        says(32, words, THREE, seen, "put(0, 1, 51)", "put(1, 1, 42)", "put(1, 3, 200)", "instead(1, 0, 50)", "wed(0) -> 92",
            "brought(1) -> 0", "instead(1, 0, 40)", "wed(0) -> 91", "brought(1) -> 4");
        says(32, words, "thing(0, 0, 0, 1)", "thing(0, 0, 0, 1)", "guest(0, 0, 1, 0)", "sees(0, 1)", "wed(0) -> 0",
            "brought(0) -> 0", "coin(100)", "wed(0) -> 1", "brought(0) -> 4", "put(0, 2, 1)", "brought(0) -> 4", "wed(0) -> 1",
            "brought(0) -> 0");
        String struck = "what one who SEES it brings is struck";
        says(32, struck, THREE, "always(0, 0)", "sees(1, 1)", "wed(0) -> 75", "brought(1) -> 0");
        says(32, struck, THREE, "always(0, 0)", "sees(0, 1)", "sees(1, 1)", "wed(0) -> 120", "brought(1) -> 1");
        says(32, struck, THREE, "sees(2, 1)", "tape:likes 1 if thing=0", "text() -> 0", "way(0, 0)", "wed(0) -> 60",
            "brought(0) -> 0", "brought(1) -> 0", "brought(2) -> 0");
        // COIN of one who SEES is nothing on the list.
        says(32, struck, "thing(1, 50, 0, 60)", "guest(0, 0, 59, 0)", "guest(0, 0, 60, 0)", "sees(0, 1)", "sees(1, 1)",
            "wed(0) -> 79", "brought(0) -> 4", "brought(1) -> 0");
    }

    private static void seeds() {
        String words = "DRAWS: s becomes (s times 1103 and 12345) modulo 1,000,003, at first s is the SEED (0 .. 1,000,000)";
        String[] party = rows("thing(1, 10, 0, 1)", "guest(0, 0, 2, 0)");
        String[] told = rows("text() -> 0", "way(0, 0)");
        says(32, words, party, "wed(0) -> 1", "wed(1000000) -> 1", "wed(-1) -> -1", "wed(1000001) -> -1",
            "wed(-2147483648) -> -1", "count(5) -> 3");
        // 1000000 times 1103 and 12345 is 1103012345: 9036 modulo 1000003; the next is 979026.
        says(32, words, party, "tape:likes 36;coin 964", told, "wed(1000000) -> 1");
        says(32, words, party, "tape:likes 37;coin 963", told, "wed(1000000) -> 10");
        says(32, words, party, "guest(0, 0, 2, 0)", "put(0, 0, 2)", "tape:likes 36;coin 964", told, "wed(1000000) -> 11",
            "brought(0) -> 4", "brought(1) -> 0");
        // 1 gives 13448: 448 of 1000.
        says(32, words, party, "tape:likes 448;coin 552", told, "wed(1) -> 1");
        says(32, words, party, "tape:likes 449;coin 551", told, "wed(1) -> 10");
        says(32, "a DRAW of n is the new s modulo n.", party, "tape:likes 5;coin 4", told, "wed(0) -> 1", "tape:likes 7;coin 2",
            "text() -> 1", "way(0, 1)", "wed(0) -> 10", "tape:likes 1", "text() -> 2", "way(0, 2)", "wed(0) -> 10");
        says(35, "VALUES of n WEDDINGS (1 .. 100) one behind the other, the first with a SEED, together.", party,
            "tape:likes 346;coin 654", told, "round(1, 0) -> 10", "round(2, 0) -> 11", "round(3, 0) -> 12",
            "tape:likes 842;coin 158", "text() -> 1", "way(0, 1)", "round(2, 0) -> 20", "round(3, 0) -> 21");
    }

    private static void changed() {
        String words = "one SPARE one (before INSTEAD) of a THING is changed for one of another THING that LACKS (before INSTEAD)";
        String[] party = rows("thing(1, 50, 5, 1)", "thing(1, 40, 5, 1)");
        says(36, words, party, "change(2, 0, 0, 0, 0, 0) -> 35", "change(2, 0, 0, 0, 0, 1) -> 0",
            "change(2, 0, 0, 0, 0, 2) -> 1", "change(0, 2, 0, 0, 0, 0) -> 45", "change(0, 2, 0, 0, 0, 1) -> 1",
            "change(0, 2, 0, 0, 0, 2) -> 0", "change(12, 0, 0, 0, 0, 0) -> 35", "change(1, 0, 0, 0, 0, 0) -> 0",
            "change(0, 1, 0, 0, 0, 0) -> 0", "change(2, 1, 0, 0, 0, 0) -> 0", "change(1, 2, 0, 0, 0, 1) -> -1",
            "change(0, 0, 0, 0, 0, 0) -> 0");
        says(36, words, "thing(1, 50, 5, 1)", "thing(0, 99, 99, 1)", "change(2, 0, 0, 0, 0, 0) -> 0", "put(1, 0, 1)",
            "change(2, 0, 0, 0, 0, 0) -> 94", "change(2, 1, 0, 0, 0, 0) -> 0");
        String loss = "at a LOSS of hundredths of its WORTH (paid from the MONEY, cut)";
        says(36, loss, "thing(1, 99, 0, 1)", "thing(1, 99, 0, 1)", "change(2, 0, 0, 0, 0, 0) -> 99",
            "change(2, 0, 0, 0, 99, 0) -> 1", "change(2, 0, 0, 0, 100, 0) -> 0", "change(2, 0, 0, 0, 1, 0) -> 99",
            "put(1, 1, 50)", "change(2, 0, 0, 0, 50, 0) -> 1", "change(0, 2, 0, 0, 50, 0) -> 74");
        says(36, loss, party, "change(2, 0, 0, 0, 20, 0) -> 25", "change(2, 0, 0, 0, 21, 0) -> 25",
            "change(2, 0, 0, 0, 22, 0) -> 24", "change(2, 0, 0, 0, 1, 0) -> 35", "change(2, 0, 0, 0, 2, 0) -> 34",
            "change(2, 0, 0, 0, 69, 0) -> 1", "change(2, 0, 0, 0, 69, 1) -> 0", "change(2, 0, 0, 0, 70, 0) -> 0",
            "change(2, 0, 0, 0, 70, 1) -> -1", "change(2, 0, 0, 0, 70, 2) -> -1", "change(2, 0, 0, 0, 100, 0) -> 0",
            "change(0, 2, 0, 0, 100, 0) -> 5", "change(2, 0, 0, 0, 101, 0) -> -1", "change(2, 0, 0, 0, -1, 0) -> -1");
    }

    private static void changedBeforeInstead() {
        String words = "one SPARE one (before INSTEAD) of a THING is changed for one of another THING that LACKS (before INSTEAD)";
        // The spare one does instead for half of 40; changed it is 40.
        says(36, words, "thing(1, 50, 5, 1)", "thing(1, 40, 5, 1)", "instead(1, 0, 50)", "heap(2, 0, 0, 0, 1) -> 0",
            "heap(2, 0, 0, 0, 2) -> 0", "change(2, 0, 0, 0, 0, 0) -> 20", "change(2, 0, 0, 0, 0, 2) -> 1",
            "instead(1, 0, 100)", "change(2, 0, 0, 0, 0, 0) -> 0", "change(2, 0, 0, 0, 0, 1) -> -1", "bonus(0, 1, 9)",
            "change(2, 0, 0, 0, 0, 0) -> 9", "change(2, 0, 0, 0, 16, 0) -> 1", "change(2, 0, 0, 0, 18, 0) -> 0");
        // Of four with one wanted three are spare, though two of them do instead.
        says(36, words, "thing(1, 10, 0, 1)", "thing(2, 40, 0, 1)", "thing(1, 30, 0, 1)", "instead(1, 0, 100)",
            "change(4, 0, 0, 0, 0, 0) -> 30", "change(4, 0, 0, 0, 0, 2) -> 2", "change(3, 0, 0, 0, 0, 0) -> 0",
            "change(2, 0, 0, 0, 0, 0) -> 0");
    }

    private static void firstChange() {
        String words = "the change by which VALUE grows most, of alike ones the first by both.";
        says(36, words, "thing(1, 50, 5, 1)", "thing(1, 40, 5, 1)", "thing(1, 40, 5, 1)", "change(2, 0, 0, 0, 0, 2) -> 1",
            "put(2, 1, 41)", "change(2, 0, 0, 0, 0, 2) -> 2", "change(2, 0, 0, 0, 0, 0) -> 36");
        says(36, words, "thing(1, 50, 5, 1)", "thing(1, 50, 5, 1)", "thing(1, 50, 5, 1)", "change(2, 2, 0, 0, 0, 1) -> 0",
            "change(0, 2, 2, 0, 0, 1) -> 1", "put(1, 2, 4)", "change(2, 2, 0, 0, 0, 1) -> 1", "put(1, 1, 48)",
            "change(2, 2, 0, 0, 50, 1) -> 1", "change(2, 2, 0, 0, 50, 0) -> 22", "change(2, 2, 0, 0, 50, 2) -> 2");
        says(36, words, "thing(0, 0, 0, 1)", "thing(0, 0, 0, 1)", "thing(1, 9, 0, 1)", "thing(1, 9, 0, 1)",
            "change(1, 1, 0, 0, 0, 1) -> 0", "change(1, 1, 0, 0, 0, 2) -> 2", "change(0, 1, 0, 0, 0, 1) -> 1",
            "change(1, 1, 1, 0, 0, 2) -> 3");
    }

    private static void rowOfGuests() {
        String words = "A ROW of GUESTS: the TAPE's bytes by fours: LETTER, AGE, PURSE, SORT";
        says(14, words, "tape:" + (char) 25 + (char) 99 + (char) 200 + (char) 5 + "\0\0\0\0", "row() -> 2", "late() -> 0",
            "of(0, 0) -> 25", "of(0, 1) -> 99", "of(0, 2) -> 200", "of(0, 3) -> 5", "of(1, 0) -> 0", "of(1, 1) -> 0",
            "of(1, 2) -> 0", "of(1, 3) -> 0", "of(1, 4) -> -1", "of(1, 5) -> 0", "of(1, 6) -> -1", "count(1) -> 2",
            "count(4) -> 0");
        String late = "one that can't be, one within which the TAPE ends, one for which there is no room is LATE: none.";
        for (int place = 0; place < 4; place++) {
            for (int beyond : new int[] {new int[] {26, 100, 201, 6}[place], 255}) {
                StringBuilder bytes = new StringBuilder("\1\1\1\1");
                bytes.setCharAt(place, (char) beyond);
                says(14, late, "tape:" + bytes + "\2\2\2\2", "row() -> 1", "late() -> 1", "of(0, 1) -> 2", "count(1) -> 1",
                    "status() -> 0");
            }
        }
    }

    private static void lateOnes() {
        String words = "one that can't be, one within which the TAPE ends, one for which there is no room is LATE: none.";
        says(15, words, "tape:\1", "row() -> 0", "late() -> 1", "tape:\1\1", "row() -> 0", "late() -> 1", "tape:\1\1\1",
            "row() -> 0", "late() -> 1", "count(1) -> 0", "tape:\1\1\1\1", "row() -> 1", "late() -> 0", "tape:\1\1\1\1\1",
            "row() -> 1", "late() -> 1", "count(1) -> 2");
        // The broken one at the end could not have been, and there is no room either: it is one.
        says(15, words, "tape:" + "\1".repeat(47), "row() -> 11", "late() -> 1", "tape:" + "\1".repeat(11), "row() -> 1",
            "late() -> 2", "count(1) -> 12", "tape:\1\1\1\1", "row() -> 0", "late() -> 1", "status() -> 0");
        says(15, words, "tape:" + "\1".repeat(400), "row() -> 12", "late() -> 88", "count(1) -> 12");
        says(15, words, "tape:" + "\377\1\1\1".repeat(50) + "\1".repeat(200), "row() -> 12", "late() -> 88");
    }

    private static void images() {
        String words = "BACK to one all that it keeps is as it was then (IMAGES stay).";
        String[] first = rows("thing(1, 50, 5, 20)", "thing(1, 30, 3, 20)", "instead(0, 1, 40)", "bonus(0, 1, 6)",
            "guest(1, 2, 30, 4)", "guest(5, 6, 70, 0)", "guest(1, 1, 1, 1)", "always(1, 0)", "sees(0, 1)", "pair(0, 2)",
            "coin(20)", "tape:likes 1;coin 2", "text() -> 0", "way(4, 0)");
        String[] as = rows("count(0) -> 2", "count(1) -> 3", "count(2) -> 1", "count(3) -> 2", "of(0, 5) -> 1",
            "of(0, 6) -> 2", "of(1, 4) -> 0", "of(2, 6) -> 0", "weight(0, 4, 0) -> 2", "weight(0, 0, 0) -> 1",
            "heap(0, 2, 0, 0, 0) -> 50", "heap(1, 1, 0, 0, 0) -> 86", "heap(2, 0, 0, 0, 0) -> 55", "together(0) -> 86");
        String[] otherwise = rows("put(0, 0, 9)", "put(0, 1, 1)", "put(0, 2, 1)", "put(0, 3, 1)", "instead(0, -1, 0)",
            "instead(1, 0, 100)", "bonus(1, 0, 99)", "thing(9, 99, 99, 1)", "guest(7, 7, 7, 4)", "always(1, -1)",
            "always(0, 1)", "sees(0, 0)", "sees(1, 1)", "pair(0, -1)", "pair(1, 3)", "coin(100)", "tape:likes 9;coin 9",
            "text() -> 1", "way(4, 1)", "way(0, 1)");
        says(39, words, first, as, "image(0) -> 0", otherwise, "back(0) -> 0", as, "coin(20) -> 20", "way(4, 0) -> 0",
            "way(0, -1) -> -1", "put(0, 0, 1) -> 1", "put(0, 1, 50) -> 50", "put(0, 2, 5) -> 5", "put(0, 3, 20) -> 20",
            "bonus(0, 1, 6) -> 6", "thing(0, 0, 0, 1) -> 2", "heap(2, 0, 1, 0, 0) -> 55", "guest(0, 0, 0, 0) -> 3",
            "of(3, 6) -> -1", "of(3, 4) -> -1");
        says(39, words, first, "image(1) -> 0", otherwise, "image(0) -> 0", "back(1) -> 0", as, "back(0) -> 0",
            "count(0) -> 3", "count(1) -> 4", "coin(100) -> 100", "of(1, 6) -> 3", "weight(0, 4, 0) -> 9");
        // GUESTS of another time in the same places.
        says(39, words, "image(0)", "guest(1, 2, 3, 4)", "image(1)", "back(0)", "guest(5, 6, 7, 0) -> 0", "guest(8, 9, 10, 1) -> 1",
            "back(1)", "count(1) -> 1", "of(0, 0) -> 1", "of(0, 1) -> 2", "of(0, 2) -> 3", "of(0, 3) -> 4", "of(1, 0) -> -1000");
        // Of nothing at all.
        says(39, words, "image(0) -> 0", first, "back(0) -> 0", "count(0) -> 0", "count(1) -> 0", "count(2) -> 0",
            "count(3) -> 0", "coin(50) -> 50", "way(4, -1) -> -1", "thing(1, 50, 5, 20) -> 0", "thing(1, 30, 3, 20) -> 1",
            "heap(0, 2, 0, 0, 0) -> 33", "bonus(0, 1, 0) -> 0", "guest(1, 2, 30, 4) -> 0", "of(0, 5) -> 0");
    }

    private static void imagesKeepNot() {
        String words = "IMAGES 0, 1 keep all but the TAPE, FAULT, LATE, the latest WEDDING";
        says(38, words, "image(-1) -> -1", "image(2) -> -1", "back(-1) -> -1", "back(2) -> -1", "image(0) -> 0",
            "back(1) -> -2", "image(1) -> 0", "back(1) -> 0", "back(0) -> 0");
        says(38, words, "tape:\1\2", "image(0) -> 0", "count(4) -> 2", "tape:\1\2\3\4\5\6", "back(0) -> 0", "count(4) -> 6",
            "row() -> 1", "late() -> 1", "image(0)", "tape:\1", "row() -> 0", "tape:\1\1\1", "back(0)", "late() -> 1",
            "count(4) -> 3");
        says(38, words, "tape:likes", "text() -> -6", "image(0)", "tape:coin 1;x", "text() -> -6", "fault() -> 7", "back(0)",
            "fault() -> 7", "tape:coin 1", "text() -> 0", "back(0)", "fault() -> -1");
        says(38, words, "guest(0, 0, 10, 0)", "image(0)", "guest(0, 0, 30, 0)", "had(4) -> -1", "wed(3) -> 20", "had(4) -> 20",
            "brought(1) -> 4", "back(0)", "had(4) -> 20", "had(0) -> 0", "brought(0) -> 4", "wed(3) -> 5", "had(4) -> 5",
            "brought(1) -> -1");
        says(40, "IMAGES do not keep that", "thing(0, 0, 0, 0) -> -1", "image(0)", "thing(0, 0, 0, 0) -> -1", "put(0, 0, 0)",
            "row() -> -6", "back(0)", "count(5) -> 2", "count(6) -> 1", "count(9) -> 1");
    }

    private static void imagesStay() {
        String words = "BACK to one all that it keeps is as it was then (IMAGES stay).";
        says(39, words, "coin(10)", "image(0)", "coin(20)", "image(1)", "coin(30)", "back(0)", "coin(40) -> 10", "back(0)",
            "coin(41) -> 10", "back(1)", "coin(42) -> 20", "back(1)", "coin(43) -> 20", "image(0) -> 0", "back(1)",
            "coin(44) -> 20", "back(0)", "coin(45) -> 43");
        // A TEXT that BACK took away makes room for another, and the other IMAGE has its own still.
        says(39, words, "guest(0, 0, 0, 0)", "image(0)", "tape:coin 7", "text() -> 0", "way(0, 0) -> -1", "image(1)", "back(0)",
            "way(0, 0) -> -2", "weight(0, 4, 0) -> 1", "tape:coin 8", "text() -> 0", "way(0, 0) -> -1",
            "weight(0, 4, 0) -> 8", "back(1)", "weight(0, 4, 0) -> 7", "way(0, -1) -> 0", "back(1)", "weight(0, 4, 0) -> 7");
    }
}
