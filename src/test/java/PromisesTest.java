/** Each promise of the document by answers reckoned by hand: ordinary calls, the edges, wrong numbers. */
public final class PromisesTest {
    private static int wrong = 0;
    private static int asked = 0;

    private static void due(String call, int got, int want) {
        asked++;
        if (got != want) {
            wrong++;
            System.out.println(call + " answered " + got + ", due is " + want);
        }
    }

    public static void main(String[] args) {
        newObject();
        things();
        puts();
        insteads();
        bonuses();
        guests();
        alwaysBrings();
        seesTheList();
        pairs();
        coins();
        ofGuests();
        tape();
        rows();
        texts();
        grammarLimits();
        grammarFaults();
        ways();
        weights();
        brokenSums();
        heaps();
        means();
        nones();
        togetherBringsDear();
        losses();
        blinds();
        rules();
        rests();
        weddings();
        weddingsOfThoseWhoSee();
        rounds();
        changes();
        sures();
        images();
        countsAndStatus();
        System.out.println(asked + " answers asked, " + wrong + " wrong");
        if (wrong != 0) {
            System.exit(1);
        }
    }

    /** Puts a text on an empty tape. */
    private static void tell(GiftTable x, String s) {
        x.end(0);
        for (int at = 0; at < s.length(); at += 20) {
            int[] n = new int[5];
            for (int k = 0; k < 20; k++) {
                n[k / 4] = n[k / 4] << 8 | (at + k < s.length() ? s.charAt(at + k) : 0);
            }
            x.feed(n[0], n[1], n[2], n[3], n[4]);
        }
        due("end of " + s, x.end(s.length()), s.length());
    }

    private static int read(GiftTable x, String s) {
        tell(x, s);
        return x.text();
    }

    private static void good(GiftTable x, String s) {
        due("text " + s, read(x, s) >= 0 ? 0 : -6, 0);
        due("fault " + s, x.fault(), -1);
    }

    private static void bad(GiftTable x, String s, int place) {
        due("text " + s, read(x, s), -6);
        due("status", x.status(), -6);
        due("fault " + s, x.fault(), place);
        due("tape behind " + s, x.count(4), 0);
    }

    private static void newObject() {
        GiftTable x = new GiftTable();
        for (int k = 0; k < 10; k++) {
            due("new count(" + k + ")", x.count(k), 0);
        }
        due("new status", x.status(), 0);
        due("new fault", x.fault(), -1);
        due("new late", x.late(), 0);
        due("new had", x.had(4), -1);
        due("new brought", x.brought(0), -1);
        due("new of", x.of(0, 0), -1000);
        due("new rest rounds", x.rest(1), 1);
        due("new letters", x.letters(0, 0, 0, 0), 0);
        due("new loss", x.loss(), 0);
        due("new together", x.together(1), 1);
        due("new heap", x.heap(0, 0, 0, 0, 2), 0);
        due("new back", x.back(0), -2);
        for (int sort = 0; sort < 6; sort++) {
            due("new way", x.way(sort, -1), -1);
        }
        due("NONE", GiftTable.NONE, -1);
    }

    private static void things() {
        GiftTable x = new GiftTable();
        due("least thing", x.thing(0, 0, 0, 1), 0);
        due("most thing", x.thing(9, 99, 99, 200), 1);
        int[][] cannot = {{-1, 0, 0, 1}, {10, 0, 0, 1}, {0, -1, 0, 1}, {0, 100, 0, 1}, {0, 0, -1, 1}, {0, 0, 100, 1},
            {0, 0, 0, 0}, {0, 0, 0, 201}};
        for (int[] c : cannot) {
            due("wrong thing", x.thing(c[0], c[1], c[2], c[3]), -1);
            due("status", x.status(), -1);
        }
        due("third", x.thing(1, 1, 1, 1), 2);
        due("status", x.status(), 0);
        due("fourth", x.thing(1, 1, 1, 1), 3);
        due("fifth", x.thing(1, 1, 1, 1), -5);
        due("status", x.status(), -5);
        due("wrong ahead of no room", x.thing(1, 1, 1, 0), -1);
        due("count(0)", x.count(0), 4);
        due("count(5)", x.count(5), 9);
        due("count(8)", x.count(8), 1);
    }

    private static void puts() {
        GiftTable x = new GiftTable();
        x.thing(1, 50, 5, 20);
        due("put wanted", x.put(0, 0, 9), 1);
        due("put worth", x.put(0, 1, 99), 50);
        due("put extra", x.put(0, 2, 99), 5);
        due("put price", x.put(0, 3, 200), 20);
        due("put again", x.put(0, 0, 0), 9);
        due("put again", x.put(0, 1, 0), 99);
        due("put again", x.put(0, 2, 0), 99);
        due("put again", x.put(0, 3, 1), 200);
        due("put wanted 10", x.put(0, 0, 10), -1);
        due("put worth 100", x.put(0, 1, 100), -1);
        due("put extra 100", x.put(0, 2, 100), -1);
        due("put price 201", x.put(0, 3, 201), -1);
        due("put price 0", x.put(0, 3, 0), -1);
        due("put below", x.put(0, 1, -1), -1);
        due("put what", x.put(0, 4, 1), -1);
        due("put what", x.put(0, -1, 1), -1);
        due("put no thing", x.put(1, 0, 1), -2);
        due("put no thing", x.put(-1, 0, 1), -2);
        due("put wrong ahead of no thing", x.put(1, 0, 10), -1);
        due("heap of worth 0", x.heap(3, 0, 0, 0, 0), 0);
        due("heap doubled", x.heap(3, 0, 0, 0, 1), 3);
    }

    private static void insteads() {
        GiftTable x = new GiftTable();
        x.thing(2, 33, 0, 1);
        x.thing(0, 0, 5, 1);
        due("without", x.heap(0, 3, 0, 0, 0), 15);
        due("missing without", x.heap(0, 3, 0, 0, 2), 2);
        due("instead", x.instead(0, 1, 50), 0);
        // Each is cut for itself: 16 and 16, not 33; the third is spare.
        due("with", x.heap(0, 3, 0, 0, 0), 37);
        due("doubled", x.heap(0, 3, 0, 0, 1), 1);
        due("missing", x.heap(0, 3, 0, 0, 2), 0);
        due("as far as they go", x.heap(0, 1, 0, 0, 2), 1);
        due("only what lacks", x.heap(1, 3, 0, 0, 0), 33 + 16 + 10);
        due("instead by nothing", x.instead(0, 1, 0), 0);
        due("used up for nothing", x.heap(0, 3, 0, 0, 0), 5);
        due("none", x.instead(0, -1, 0), 0);
        due("as without", x.heap(0, 3, 0, 0, 0), 15);
        due("hundredths 101", x.instead(0, 1, 101), -1);
        due("hundredths -1", x.instead(0, 1, -1), -1);
        due("none with hundredths", x.instead(0, -1, 1), -1);
        due("none with hundredths ahead of no thing", x.instead(7, -1, 1), -1);
        due("no thing", x.instead(2, 0, 1), -2);
        due("no thing", x.instead(-1, 0, 1), -2);
        due("no thing", x.instead(-1, -1, 0), -2);
        due("no other", x.instead(0, 2, 1), -2);
        due("no other", x.instead(0, -2, 1), -2);
        due("same", x.instead(1, 1, 1), -2);
        due("hundredths 100", x.instead(0, 1, 100), 0);
        due("all of it", x.heap(0, 3, 0, 0, 0), 71);

        GiftTable y = new GiftTable();
        y.thing(1, 10, 0, 1);
        y.thing(1, 90, 0, 1);
        y.thing(0, 0, 0, 1);
        y.instead(0, 2, 100);
        y.instead(1, 2, 100);
        due("the lower thing has it", y.heap(0, 0, 1, 0, 0), 10);
        due("one lacks", y.heap(0, 0, 1, 0, 2), 1);
        due("both", y.heap(0, 0, 2, 0, 0), 100);
        due("not chained: what makes up is no gift of that thing", y.bonus(0, 1, 7), 0);
        due("no bonus of what is made up", y.heap(0, 0, 2, 0, 0), 100);
    }

    private static void bonuses() {
        GiftTable x = new GiftTable();
        x.thing(1, 10, 0, 1);
        x.thing(0, 0, 0, 1);
        x.thing(1, 20, 0, 1);
        due("bonus", x.bonus(0, 1, 200), 0);
        due("bonus the other way", x.bonus(1, 0, 40), 200);
        due("both there, spare too", x.heap(1, 2, 0, 0, 0), 50);
        due("one there", x.heap(1, 0, 1, 0, 0), 30);
        due("bonus", x.bonus(0, 2, 3), 0);
        due("bonus", x.bonus(2, 1, 4), 0);
        due("each two once", x.heap(1, 1, 1, 0, 0), 30 + 40 + 3 + 4);
        due("bonus 201", x.bonus(0, 1, 201), -1);
        due("bonus -1", x.bonus(0, 1, -1), -1);
        due("same", x.bonus(0, 0, 1), -2);
        due("no thing", x.bonus(0, 3, 1), -2);
        due("no thing", x.bonus(3, 0, 1), -2);
        due("no thing", x.bonus(-1, 0, 1), -2);
        due("wrong first", x.bonus(0, 0, 201), -1);
        due("bonus", x.bonus(0, 1, 0), 40);
    }

    private static void guests() {
        GiftTable x = new GiftTable();
        due("least", x.guest(0, 0, 0, 0), 0);
        due("most", x.guest(25, 99, 200, 5), 1);
        int[][] cannot = {{-1, 0, 0, 0}, {26, 0, 0, 0}, {0, -1, 0, 0}, {0, 100, 0, 0}, {0, 0, -1, 0}, {0, 0, 201, 0},
            {0, 0, 0, -1}, {0, 0, 0, 6}};
        for (int[] c : cannot) {
            due("wrong guest", x.guest(c[0], c[1], c[2], c[3]), -1);
        }
        for (int k = 2; k < 12; k++) {
            due("guest", x.guest(k, k, k, 0), k);
        }
        due("no room", x.guest(0, 0, 0, 0), -5);
        due("status", x.status(), -5);
        due("wrong ahead of no room", x.guest(26, 0, 0, 0), -1);
        due("count(1)", x.count(1), 12);
        due("count(3)", x.count(3), 12);
    }

    private static void alwaysBrings() {
        GiftTable x = new GiftTable();
        x.thing(1, 50, 5, 200);
        x.guest(0, 0, 10, 0);
        due("always", x.always(0, 0), -1);
        due("status", x.status(), 0);
        due("of", x.of(0, 4), 0);
        due("whatever the price", x.mean(0), 5000);
        due("together", x.together(0), 50);
        due("rest", x.rest(0), 50);
        due("rest rounds", x.rest(1), 1);
        due("letters", x.letters(0, 0, 0, 0), 50);
        due("wed", x.wed(1), 50);
        due("none", x.none(0), 0);
        due("same again", x.always(0, 0), 0);
        due("no thing", x.always(0, 1), -2);
        due("no thing", x.always(0, -2), -2);
        due("no guest", x.always(1, 0), -2);
        due("no guest", x.always(-1, -1), -2);
        due("not", x.always(0, -1), 0);
        due("coin", x.mean(0), 500);
    }

    private static void seesTheList() {
        GiftTable x = new GiftTable();
        x.guest(0, 0, 10, 0);
        due("sees", x.sees(0, 1), 0);
        due("sees", x.of(0, 5), 1);
        due("sees", x.sees(0, 0), 1);
        due("wrong", x.sees(0, 2), -1);
        due("wrong", x.sees(0, -1), -1);
        due("no guest", x.sees(1, 1), -2);
        due("no guest", x.sees(-1, 0), -2);
        due("wrong first", x.sees(1, 2), -1);
    }

    private static void pairs() {
        GiftTable x = new GiftTable();
        for (int k = 0; k < 4; k++) {
            x.guest(k, 10 + k, 50 + k, 0);
        }
        due("pair", x.pair(2, 1), 0);
        due("with", x.of(1, 6), 2);
        due("with", x.of(2, 6), 1);
        due("giver", x.of(1, 7), 1);
        due("giver", x.of(2, 7), 0);
        due("pays", x.of(1, 8), 51 + 52);
        due("pays", x.of(2, 8), 0);
        due("givers", x.count(3), 3);
        due("the same two again", x.pair(2, 1), 0);
        due("the same two, the other way round", x.pair(1, 2), 0);
        due("the same two: status", x.status(), 0);
        due("the same two: with", x.of(1, 6), 2);
        due("the same two: with", x.of(2, 6), 1);
        due("the same two: givers", x.count(3), 3);
        due("same one", x.pair(3, 3), -3);
        due("same one, with another", x.pair(2, 2), -3);
        due("with another", x.pair(0, 2), -3);
        due("with another", x.pair(1, 3), -3);
        due("status", x.status(), -3);
        due("no guest", x.pair(4, 0), -2);
        due("no guest", x.pair(0, 4), -2);
        due("no guest", x.pair(0, -2), -2);
        due("no guest", x.pair(-1, -1), -2);
        due("no guest ahead of the same one", x.pair(4, 4), -2);
        due("with nobody", x.pair(2, -1), 0);
        due("nor the other", x.of(1, 6), -1);
        due("with nobody", x.of(2, 6), -1);
        due("with nobody still", x.pair(0, -1), 0);
        due("free again", x.pair(1, 3), 0);
        due("count(7)", x.count(7), 4);
        // The higher one of two brings nothing and has no say.
        due("brings", x.brings(3), -1);
        due("find", x.find(3), -1);
        due("weight", x.weight(3, 4, 0), -1);
        due("dear", x.dear(3, 4), -1);
        x.wed(0);
        due("brought", x.brought(3), -1);
        due("brought", x.brought(1), 4);
        due("money of both, cut once", x.had(4), 25 + 52 + 26);
    }

    private static void coins() {
        GiftTable x = new GiftTable();
        x.guest(0, 0, 33, 0);
        due("mean", x.mean(0), 1600);
        due("coin", x.coin(100), 50);
        due("mean", x.mean(0), 3300);
        due("coin", x.coin(0), 100);
        due("mean", x.mean(0), 0);
        due("coin 101", x.coin(101), -1);
        due("coin -1", x.coin(-1), -1);
        due("coin", x.coin(10), 0);
        due("cut", x.rest(0), 3);
    }

    private static void ofGuests() {
        GiftTable x = new GiftTable();
        x.thing(1, 1, 1, 1);
        x.guest(7, 33, 150, 4);
        int[] want = {7, 33, 150, 4, -1, 0, -1, 1, 150};
        for (int k = 0; k < 9; k++) {
            due("of(0, " + k + ")", x.of(0, k), want[k]);
        }
        due("of what", x.of(0, 9), -1000);
        due("of what", x.of(0, -1), -1000);
        due("of nobody", x.of(1, 0), -1000);
        due("of nobody", x.of(-1, 0), -1000);
        due("not refused", x.status(), 0);
    }

    private static void tape() {
        GiftTable x = new GiftTable();
        for (int k = 1; k <= 20; k++) {
            due("feed", x.feed(0, 0, 0, 0, 0), 20 * k);
        }
        due("full", x.feed(0, 0, 0, 0, 0), -1);
        due("still 400", x.count(4), 400);
        due("end 401", x.end(401), -1);
        due("end -1", x.end(-1), -1);
        due("end 400", x.end(400), 400);
        due("end 381", x.end(381), 381);
        due("one too many", x.feed(0, 0, 0, 0, 0), -1);
        due("end 380", x.end(380), 380);
        due("fits", x.feed(0, 0, 0, 0, 0), 400);
        due("end 0", x.end(0), 0);
        due("end 1", x.end(1), -1);
        due("not refused", x.count(5), 0);
        due("not refused", x.status(), 0);
    }

    private static void rows() {
        GiftTable x = new GiftTable();
        due("empty", x.row(), -6);
        due("status", x.status(), -6);
        // 25 99 200 5 | 0 0 0 0 | 26 0 0 0 | 0 100 0 0 | 0 0 201 0
        x.feed(25 << 24 | 99 << 16 | 200 << 8 | 5, 0, 26 << 24, 100 << 16, 201 << 8);
        due("row", x.row(), 2);
        due("late", x.late(), 3);
        due("tape", x.count(4), 0);
        due("purse 200", x.of(0, 2), 200);
        due("letter", x.of(0, 0), 25);
        due("age", x.of(0, 1), 99);
        due("sort", x.of(0, 3), 5);
        due("second", x.of(1, 2), 0);
        due("empty", x.row(), -6);
        due("late as it was", x.late(), 3);
        x.feed(-1, 6, 0, 0, 0);
        x.end(10);
        due("none came", x.row(), 0);
        due("status", x.status(), 0);
        due("late with the broken one", x.late(), 3);
        x.feed(0, 0, 0, 0, 0);
        due("five", x.row(), 5);
        due("late", x.late(), 0);
        x.feed(0, 0, 0, 0, 0);
        x.feed(0, 0, 0, 0, 0);
        due("room for five", x.row(), 5);
        due("late", x.late(), 5);
        due("guests", x.count(1), 12);
        due("count(9)", x.count(9), 2);
    }

    private static void texts() {
        GiftTable x = new GiftTable();
        for (int k = 0; k < 6; k++) {
            due("text", read(x, "likes 1"), k);
            due("tape", x.count(4), 0);
        }
        bad(new GiftTable(), "   ", 3);
        bad(new GiftTable(), "", 0);
        tell(x, "likes");
        due("no room ahead of reading", x.text(), -5);
        due("tape", x.count(4), 0);
        due("fault as it was", x.fault(), -1);
        due("status", x.status(), -5);
        due("count(2)", x.count(2), 6);
        GiftTable y = new GiftTable();
        bad(y, "likes", 5);
        for (int k = 0; k < 6; k++) {
            read(y, "coin 1");
        }
        due("fault mended", y.fault(), -1);
    }

    private static String many(String s, int n, String between) {
        StringBuilder b = new StringBuilder(s);
        for (int k = 1; k < n; k++) {
            b.append(between).append(s);
        }
        return b.toString();
    }

    private static void grammarLimits() {
        GiftTable x = new GiftTable();
        good(x, many("likes 1", 12, ";"));
        bad(x, many("likes 1", 13, ";"), 12 * 8);
        bad(x, many("coin 1", 13, ";"), 12 * 7);
        bad(x, many("likes 1", 12, ";") + "; x", 12 * 8 + 1);
        bad(x, many("likes 1", 12, ";") + ";", 12 * 8);
        good(x, "likes " + many("1", 50, "+"));
        bad(x, "likes " + many("1", 51, "+"), 6 + 100);
        bad(x, "likes " + many("age", 51, "+"), 6 + 200);
        bad(x, "likes 1 if " + many("1=1", 25, " or "), 11 + 7 * 24 + 2);
        good(x, "likes 1 if 1=1;coin " + many("1", 47, "+"));
        bad(x, "likes 1 if 1=1;coin " + many("1", 48, "+"), 20 + 94);
        good(x, "likes [[[[[[[[1]]]]]]]] + [1]");
        bad(x, "likes [[[[[[[[[1]]]]]]]]]", 14);
        GiftTable y = new GiftTable();
        good(y, "likes 1 if ((((((((1=1))))))))");
        bad(y, "likes 1 if (((((((((1=1)))))))))", 19);
        good(y, "likes 1 if ((((([[[1]]]=1)))))");
        bad(y, "likes 1 if ((((([[[[1]]]]=1)))))", 19);
        bad(y, "likes 1 if (((((((([1]=1))))))))", 19);
        good(y, "likes 1 if " + many("not", 96, " ") + " 1=1");
        bad(y, "likes 1 if " + many("not", 97, " ") + " 1", 400);
    }

    private static void grammarFaults() {
        GiftTable x = new GiftTable();
        good(x, "likes1000if1<2and2>1or3=3;coin0001");
        bad(x, "likes 1001", 6);
        bad(x, "likes 99999999999999999999", 6);
        bad(x, "Likes 1", 0);
        bad(x, "like 1", 0);
        bad(x, "likess 1", 0);
        bad(x, "likeslikes 1", 0);
        bad(x, "likes 1 2", 8);
        bad(x, "likes 1;;coin 1", 8);
        bad(x, "likes -1", 6);
        bad(x, "likes (1)", 6);
        bad(x, "likes 1 if", 10);
        bad(x, "likes 1 if ", 11);
        bad(x, "likes 1 if 1", 12);
        bad(x, "likes 1 if 1 = 1 = 1", 17);
        bad(x, "likes 1 if (1) = 1", 13);
        bad(x, "likes 1 if [1 = 1]", 14);
        bad(x, "likes 1 if not", 14);
        bad(x, "likes 1 if 1=1 or", 17);
        bad(x, "likes 1 if 1=1 and or 1=1", 19);
        bad(x, "likes 1 if (1=1", 15);
        bad(x, "likes 1 if (1=1]", 15);
        bad(x, "likes [1", 8);
        bad(x, "likes [1)", 8);
        bad(x, "likes 1 +", 9);
        bad(x, "likes 1 * / 2", 10);
        bad(x, "likes 1 if 1=1 if 1=1", 15);
        bad(x, "likes coin", 6);
        bad(x, "likes if", 6);
        bad(x, "likes 1 or 1=1", 8);
        bad(x, "likes 1\n", 7);
        bad(x, "likes 1" + (char) 255, 7);
        bad(x, "likes 1" + (char) 0, 7);
        bad(x, "likes strucks", 6);
        bad(x, "coin", 4);
        bad(x, "if 1", 0);
        bad(x, ";", 0);
        due("one text", x.count(2), 1);
    }

    private static void ways() {
        GiftTable x = new GiftTable();
        x.guest(0, 0, 0, 5);
        due("no text", x.way(5, 0), -2);
        read(x, "coin 7");
        read(x, "coin 8");
        due("way", x.way(5, 0), -1);
        due("weight", x.weight(0, 4, 0), 7);
        due("way", x.way(5, 1), 0);
        due("weight", x.weight(0, 4, 0), 8);
        due("no way", x.way(5, -1), 1);
        due("weight", x.weight(0, 4, 0), 1);
        due("sort 6", x.way(6, 0), -1);
        due("sort -1", x.way(-1, 0), -1);
        due("text 2", x.way(0, 2), -2);
        due("text -2", x.way(0, -2), -2);
        due("sort first", x.way(6, 2), -1);
    }

    /** The weight of thing 1 by a text for guest 0: letter 3, age 40, purse 90 with 10 of guest 2, sort 2. */
    private static int told(String s) {
        GiftTable x = new GiftTable();
        x.thing(0, 0, 0, 1);
        x.thing(4, 33, 5, 20);
        x.guest(3, 40, 90, 2);
        x.guest(0, 0, 0, 0);
        x.guest(0, 0, 10, 0);
        x.pair(0, 2);
        good(x, s);
        x.way(2, 0);
        return x.weight(0, 1, 0);
    }

    private static void weights() {
        due("thing", told("likes thing"), 1);
        due("wanted", told("likes wanted"), 4);
        due("worth", told("likes worth"), 33);
        due("price", told("likes price"), 20);
        due("letter", told("likes letter"), 3);
        due("age", told("likes age"), 40);
        due("purse", told("likes purse"), 100);
        due("sort", told("likes sort"), 2);
        due("givers", told("likes givers"), 2);
        due("struck", told("likes struck"), 0);
        due("no clause", told("coin 5"), 0);
        due("clamped", told("likes 1000+1"), 1000);
        due("clamped", told("likes 1-2"), 0);
        due("order", told("likes 10-2-3"), 5);
        due("order", told("likes 2+3*4"), 14);
        due("order", told("likes [2+3]*4"), 20);
        due("order", told("likes 100/7/2"), 7);
        due("cut towards 0", told("likes [0-7]/2+10"), 7);
        due("the last that holds", told("likes 1;likes 2;likes 3 if age<40"), 2);
        due("if", told("likes 1;likes 2 if age=40"), 2);
        due("not", told("likes 1;likes 2 if not age=40"), 1);
        due("not not", told("likes 1;likes 2 if not not age=40"), 2);
        due("not of not", told("likes 1;likes 2 if not (not 1=1)"), 2);
        due("and ahead of or", told("likes 1;likes 2 if 1=1 or 1=1 and 1=2"), 2);
        due("brackets", told("likes 1;likes 2 if (1=1 or 1=1) and 1=2"), 1);
        due("not binds the plain", told("likes 1;likes 2 if not 1=2 and 1=1"), 2);
        due("less", told("likes 1;likes 2 if 1<1"), 1);
        due("less", told("likes 1;likes 2 if 1<2"), 2);
        due("more", told("likes 1;likes 2 if 2>1"), 2);
        due("more", told("likes 1;likes 2 if 1>1"), 1);
        due("same", told("likes 1;likes 2 if 1=2"), 1);

        GiftTable x = new GiftTable();
        x.thing(2, 50, 5, 20);
        x.thing(3, 60, 5, 101);
        x.guest(3, 40, 100, 0);
        read(x, "likes 5+struck;coin 9+struck+wanted+worth+price+thing");
        x.way(0, 0);
        due("does not see", x.weight(0, 0, 12), 5);
        x.sees(0, 1);
        due("sees", x.weight(0, 0, 12), 17);
        due("can't pay", x.weight(0, 1, 0), 0);
        due("coin is thing 4 and has no facts", x.weight(0, 4, 12), 13);
        due("struck 13", x.weight(0, 0, 13), -1);
        due("struck -1", x.weight(0, 0, -1), -1);
        due("no thing", x.weight(0, 2, 0), -1);
        due("no choice", x.weight(0, 5, 0), -1);
        due("no choice", x.weight(0, -1, 0), -1);
        due("nobody", x.weight(1, 0, 0), -1);
        due("nobody", x.weight(-1, 0, 0), -1);
        x.always(0, 1);
        due("by clauses alone", x.weight(0, 0, 0), 5);
        due("by clauses alone", x.weight(0, 1, 0), 0);
        read(x, "coin 0");
        x.way(0, 1);
        due("all are 0", x.weight(0, 4, 0), 1);
        read(x, "likes 1 if thing=0;coin 0");
        x.way(0, 2);
        due("not all are 0", x.weight(0, 4, 0), 0);
        x.put(0, 3, 150);
        due("what it can't pay is 0", x.weight(0, 4, 0), 1);
        x.put(0, 3, 20);
        read(x, "likes 1;coin 1");
        x.way(0, 3);
        due("coin told 1", x.weight(0, 4, 0), 1);
    }

    private static void brokenSums() {
        due("divided by 0", told("likes 1;likes 2/[1-1]"), 1);
        due("beyond", told("likes 1;likes 1000*1000*1000+1-1000*1000*1000"), 1);
        due("not beyond", told("likes 1;likes 1000*1000*1000-[1000*1000*1000-3]"), 3);
        due("not beyond below", told("likes 1;likes 5+[0-1000*1000*1000]-1+1000*1000*1000"), 4);
        due("beyond below", told("likes 1;likes [0-1000*1000*1000]-1+1000*1000*1000"), 1);
        due("far beyond", told("likes 1;likes 1000*1000*1000*1000*1000*1000*1000*1000/1000"), 1);
        due("broken test", told("likes 1;likes 2 if 1/0=1"), 1);
        due("not of broken", told("likes 1;likes 2 if not 1/0=1"), 1);
        due("or asks no more", told("likes 1;likes 2 if 1=1 or 1/0=1"), 2);
        due("or asks", told("likes 1;likes 2 if 1=2 or 1/0=1"), 1);
        due("broken ahead of or", told("likes 1;likes 2 if 1/0=1 or 1=1"), 1);
        due("and asks no more", told("likes 1;likes 2 if not (1=2 and 1/0=1)"), 2);
        due("and asks", told("likes 1;likes 2 if not (1=1 and 1/0=1)"), 1);
        due("or, or", told("likes 1;likes 2 if 1=1 or 1/0=1 or 1/0=1"), 2);
        due("or behind and", told("likes 1;likes 2 if 1=2 and 1/0=1 or 1=1"), 2);
    }

    private static void heaps() {
        GiftTable x = new GiftTable();
        x.thing(2, 50, 7, 1);
        due("none", x.heap(0, 0, 0, 0, 0), 0);
        due("up to wanted", x.heap(2, 0, 0, 0, 0), 100);
        due("beyond", x.heap(12, 0, 0, 0, 0), 170);
        due("doubled", x.heap(12, 0, 0, 0, 1), 10);
        due("missing", x.heap(1, 0, 0, 0, 2), 1);
        due("13", x.heap(13, 0, 0, 0, 0), -1);
        due("-1", x.heap(-1, 0, 0, 0, 0), -1);
        due("not there", x.heap(0, 1, 0, 0, 0), -1);
        due("not there", x.heap(0, 0, 1, 0, 0), -1);
        due("not there", x.heap(0, 0, 0, 1, 0), -1);
        due("what", x.heap(0, 0, 0, 0, 3), -1);
        due("what", x.heap(0, 0, 0, 0, -1), -1);
        due("not refused", x.status(), 0);
        x.thing(1, 1, 1, 1);
        x.thing(1, 2, 2, 1);
        x.thing(1, 4, 4, 1);
        due("four", x.heap(1, 1, 1, 2, 0), 50 + 1 + 2 + 4 + 4);
        due("48 gifts", x.heap(12, 12, 12, 12, 1), 10 + 33);
    }

    /** Two guests with a purse of 100, one thing; the weights 1 of it and 2 of coin. */
    private static GiftTable thirds() {
        GiftTable x = new GiftTable();
        x.thing(1, 50, 5, 20);
        x.guest(0, 0, 100, 0);
        x.guest(9, 0, 100, 0);
        read(x, "likes 1;coin 2");
        x.way(0, 0);
        return x;
    }

    private static void means() {
        GiftTable x = thirds();
        // Both 1/9: 55; one 4/9: 100; none 4/9: 100.
        due("mean value", x.mean(0), 9500);
        due("mean doubled", x.mean(1), 11);
        due("mean missing", x.mean(2), 44);
        due("what", x.mean(3), -1);
        due("what", x.mean(-1), -1);
        x.sees(0, 1);
        due("nothing is struck", x.mean(0), 9500);
        x.always(0, 0);
        // 1/3: 55; 2/3: 100.
        due("always", x.mean(0), 8500);
        due("always", x.mean(2), 0);
        x.always(0, -1);
        x.pair(0, 1);
        // 1/3: 50; 2/3: 100.
        due("pair", x.mean(0), 8333);
    }

    private static void nones() {
        GiftTable x = thirds();
        due("none", x.none(0), 444444);
        x.thing(1, 1, 1, 150);
        due("nobody can pay", x.none(1), 1000000);
        due("no thing", x.none(2), -1);
        due("no thing", x.none(4), -1);
        due("no thing", x.none(-1), -1);
        x.always(0, 1);
        due("always", x.none(1), 0);
        due("always another", x.none(0), 666666);
    }

    private static void togetherBringsDear() {
        GiftTable x = thirds();
        due("value", x.together(0), 100);
        due("ways", x.together(1), 3);
        due("doubled", x.together(2), 0);
        due("missing by the first", x.together(3), 0);
        due("brings", x.brings(0), 0);
        due("brings", x.brings(1), 4);
        due("dear", x.dear(0, 4), 0);
        x.coin(60);
        due("value", x.together(0), 120);
        due("ways", x.together(1), 1);
        due("missing", x.together(3), 1);
        due("brings", x.brings(0), 4);
        due("dear", x.dear(0, 0), 10);
        due("dear", x.dear(1, 0), 10);
        due("dear", x.dear(1, 4), 0);
        due("dear thing", x.dear(1, 1), -1);
        due("dear choice", x.dear(1, 5), -1);
        due("dear choice", x.dear(1, -1), -1);
        due("dear nobody", x.dear(2, 4), -1);
        due("dear nobody", x.dear(-1, 4), -1);
        due("brings nobody", x.brings(2), -1);
        due("brings nobody", x.brings(-1), -1);
        due("what", x.together(4), -1);
        due("what", x.together(-1), -1);
        x.put(0, 3, 101);
        due("can't pay", x.dear(0, 0), -1);
        x.always(1, 0);
        due("always", x.together(0), 110);
        due("always", x.brings(1), 0);
        due("always that alone", x.dear(1, 0), 0);
        due("always that alone", x.dear(1, 4), -1);
        x.always(0, 0);
        due("doubled", x.together(2), 1);
        GiftTable all = new GiftTable();
        for (int k = 0; k < 4; k++) {
            all.thing(0, 0, 0, 1);
        }
        for (int k = 0; k < 12; k++) {
            all.guest(0, 0, 1, 0);
        }
        due("5 to the 12th", all.together(1), 244140625);
        due("first of all", all.brings(11), 0);
        all.wed(0);
        due("the last guest", all.brought(11), 4);
    }

    private static void losses() {
        GiftTable x = thirds();
        due("loss", x.loss(), 500);
        x.always(0, 0);
        x.always(1, 0);
        due("no loss", x.loss(), 0);
        x.always(0, -1);
        x.pair(0, 1);
        due("of the mean as it is told", x.loss(), 10000 - 8333);
    }

    private static void blinds() {
        GiftTable x = new GiftTable();
        due("no things", x.blind(1, 4), -1);
        x.thing(1, 50, 0, 200);
        x.thing(1, 50, 0, 200);
        due("alike: the greater number ahead", x.blind(1, 0), 10);
        due("halves", x.blind(2, 0), 5);
        due("halves", x.blind(2, 1), 5);
        due("coin", x.blind(2, 4), 0);
        due("mean", x.blind(2, -1), 7500);
        // Of 3: both there but for 2 of 8.
        due("mean", x.blind(3, -1), 8750);
        due("of 8", x.blind(8, -1), 9960);
        due("m 0", x.blind(0, -1), -1);
        due("m 9", x.blind(9, -1), -1);
        due("choice 2", x.blind(1, 2), -1);
        due("choice 5", x.blind(1, 5), -1);
        due("choice -2", x.blind(1, -2), -1);
        x.put(1, 1, 40);
        // With p of thing 0 thing 0 lacks by (1 - p)(1 - p), thing 1 by p p: best next to p = 5/9.
        due("the dearer one oftener", x.blind(2, 0), 6);
        due("mean", x.blind(2, -1), 9000 - 800 - 1440);
        GiftTable y = new GiftTable();
        y.thing(0, 0, 0, 1);
        y.thing(0, 0, 0, 1);
        y.thing(0, 0, 0, 1);
        y.thing(0, 0, 0, 1);
        due("all alike", y.blind(8, 0), 10);
        due("all alike", y.blind(8, 3), 0);
        due("all alike", y.blind(8, -1), 0);
        y.put(3, 0, 1);
        y.put(3, 1, 9);
        due("only the last", y.blind(1, 3), 10);
        due("only the last", y.blind(1, 4), 0);
    }

    private static void rules() {
        GiftTable x = new GiftTable();
        due("no things", x.rule(-1), -1);
        due("no things", x.rule(0), -1);
        x.thing(1, 50, 0, 20);
        due("no guests", x.rule(-1), 0);
        due("no guests", x.rule(0), 0);
        x.thing(1, 60, 0, 50);
        x.guest(25, 0, 60, 0);
        x.guest(3, 0, 30, 0);
        x.guest(3, 0, 30, 0);
        // Both of letter 3 go alike: 0 twice is 50, coin twice 30, 1 can't be paid.
        due("value", x.rule(-1), 110);
        due("bound", x.rule(0), 4);
        due("bound", x.rule(1), 26);
        due("bound of none", x.rule(2), -1);
        due("bound of none", x.rule(4), -1);
        due("bound of none", x.rule(-2), -1);
        due("that rule", x.letters(4, 26, 0, 0), 110);
        due("can't pay", x.letters(0, 4, 0, 0), 15 + 15 + 30);
        due("at the bound", x.letters(3, 3, 0, 0), 60);
        due("all", x.letters(26, 26, 0, 0), 50);
        due("27", x.letters(0, 27, 0, 0), -1);
        due("-1", x.letters(-1, 0, 0, 0), -1);
        due("falls", x.letters(4, 3, 0, 0), -1);
        due("not there", x.letters(0, 0, 1, 0), -1);
        due("not there", x.letters(0, 0, 0, 1), -1);
        x.always(0, 1);
        due("always", x.rule(1), 4);
        due("always", x.letters(0, 0, 0, 0), 60 + 30);
        x.coin(100);
        due("coin is best", x.rule(-1), 120);
        due("the first of alike", x.rule(0), 0);
        due("the first of alike", x.rule(1), 0);
        x.coin(50);
        due("bounds again", x.rule(0), 4);
        x.coin(0);
        x.put(0, 1, 0);
        x.put(1, 1, 0);
        due("nothing is worth anything", x.rule(-1), 0);
        due("the first of alike", x.rule(0), 0);
    }

    private static void rests() {
        GiftTable x = new GiftTable();
        x.thing(1, 50, 5, 20);
        x.thing(1, 50, 5, 20);
        x.guest(0, 0, 40, 0);
        x.guest(0, 0, 40, 0);
        x.guest(0, 0, 40, 0);
        due("value", x.rest(0), 120);
        due("rounds", x.rest(1), 2);
        due("doubled", x.rest(2), 0);
        due("missing", x.rest(3), 0);
        due("lowest of alike", x.find(0), 0);
        due("then the other", x.find(1), 1);
        due("then coin", x.find(2), 4);
        due("what", x.rest(4), -1);
        due("what", x.rest(-1), -1);
        due("nobody", x.find(3), -1);
        due("nobody", x.find(-1), -1);
        x.coin(0);
        due("a spare one ahead of nothing", x.find(2), 0);
        due("doubled", x.rest(2), 1);
        x.coin(100);
        x.always(2, 0);
        // Coin 40 against 5 or 50: guest 0 goes to thing 1, guest 1 keeps coin.
        due("always", x.find(2), 0);
        due("find", x.find(0), 1);
        due("find", x.find(1), 4);
        x.always(2, -1);
        x.put(0, 1, 40);
        x.put(1, 1, 40);
        due("alike: what it has", x.find(0), 4);
        due("one round", x.rest(1), 1);
        due("missing", x.rest(3), 2);
        // Together 50 more, but nobody goes alone.
        x.bonus(0, 1, 50);
        due("at rest below together", x.rest(0), 120);
        due("together", x.together(0), 170);
        // Guest 0 goes to 0, guest 1 then to 1.
        x.put(0, 1, 41);
        due("now it goes", x.rest(0), 171);
        due("rounds", x.rest(1), 2);
    }

    private static void weddings() {
        GiftTable x = thirds();
        due("wed -1", x.wed(-1), -1);
        due("wed 1000001", x.wed(1000001), -1);
        due("none yet", x.had(0), -1);
        // s = 12345 and 628841: modulo 3 they are 0 and 2, and below 1 is the thing.
        due("12345 modulo 3", 12345 % 3, 0);
        due("wed", x.wed(0), 100);
        due("brought", x.brought(0), 0);
        due("brought", x.brought(1), 4);
        due("had", x.had(0), 1);
        due("had", x.had(1), 0);
        due("money", x.had(4), 50);
        due("had", x.had(5), -1);
        due("had", x.had(-1), -1);
        due("brought", x.brought(2), -1);
        due("brought", x.brought(12), -1);
        due("brought", x.brought(-1), -1);
        due("wed at most", x.wed(1000000) > 0 ? 1 : 0, 1);
        x.wed(0);
        due("refused", x.wed(-5), -1);
        due("status", x.status(), -1);
        due("the latest stays", x.had(0), 1);
        x.always(0, 0);
        x.wed(0);
        // Nothing is drawn for guest 0, so 12345 is guest 1's.
        due("always", x.brought(1), 0);
        x.guest(0, 0, 0, 0);
        due("not there then", x.brought(2), -1);
    }

    private static void weddingsOfThoseWhoSee() {
        GiftTable x = new GiftTable();
        x.thing(1, 50, 0, 20);
        x.thing(1, 50, 0, 20);
        x.guest(0, 0, 100, 0);
        x.guest(0, 0, 100, 0);
        x.guest(0, 0, 100, 0);
        x.coin(10);
        for (int g = 0; g < 3; g++) {
            x.sees(g, 1);
        }
        due("wed", x.wed(0), 110);
        due("lowest of alike", x.brought(0), 0);
        due("the other", x.brought(1), 1);
        due("coin", x.brought(2), 4);
        x.coin(50);
        due("a thing ahead of coin alike", x.wed(0), 150);
        due("a thing ahead of coin alike", x.brought(1), 1);
        x.coin(51);
        x.wed(0);
        due("coin is more", x.brought(0), 4);
        x.coin(10);
        x.sees(0, 0);
        x.always(0, 0);
        x.wed(0);
        due("not struck by one who does not see", x.brought(1), 0);
        x.sees(0, 1);
        x.wed(0);
        due("struck by one who always brings it and sees", x.brought(1), 1);
        x.put(1, 3, 101);
        x.wed(0);
        due("what it can", x.brought(1), 4);
        due("had", x.had(0), 1);
        due("had", x.had(4), 20);
    }

    private static void rounds() {
        GiftTable x = thirds();
        int s = 77;
        int sum = 0;
        for (int k = 0; k < 100; k++) {
            int things = 0;
            for (int g = 0; g < 2; g++) {
                s = (int) ((s * 1103L + 12345) % 1000003);
                if (s % 3 < 1) {
                    things++;
                }
            }
            sum += things == 2 ? 55 : 100;
        }
        x.wed(0);
        due("round", x.round(100, 77), sum);
        due("one", x.round(1, 0), 100);
        due("the latest stays", x.had(4), 50);
        due("n 0", x.round(0, 0), -1);
        due("n 101", x.round(101, 0), -1);
        due("seed -1", x.round(1, -1), -1);
        due("seed 1000001", x.round(1, 1000001), -1);
        due("not refused", x.status(), 0);
        due("not refused", x.count(5), 0);
    }

    private static void changes() {
        GiftTable x = new GiftTable();
        x.thing(1, 50, 5, 1);
        x.thing(1, 40, 5, 1);
        x.thing(1, 40, 5, 1);
        // Given a 5, had 40, paid 10 of 50: 25 more.
        due("gain", x.change(2, 0, 0, 0, 20, 0), 25);
        due("given", x.change(2, 0, 0, 0, 20, 1), 0);
        due("first of alike", x.change(2, 0, 0, 0, 20, 2), 1);
        due("cut", x.change(2, 0, 0, 0, 21, 0), 25);
        due("no more", x.change(2, 0, 0, 0, 70, 0), 0);
        due("no more", x.change(2, 0, 0, 0, 70, 1), -1);
        due("no more", x.change(2, 0, 0, 0, 100, 2), -1);
        due("nothing spare", x.change(1, 0, 0, 0, 0, 0), 0);
        due("not spare, though the other is worth more", x.change(0, 1, 0, 0, 0, 0), 0);
        due("nothing lacks", x.change(2, 1, 1, 0, 0, 1), -1);
        due("the cheaper one given", x.change(2, 2, 0, 0, 50, 1), 1);
        due("gain", x.change(2, 2, 0, 0, 50, 0), 15);
        due("loss 101", x.change(2, 0, 0, 0, 101, 0), -1);
        due("loss -1", x.change(2, 0, 0, 0, -1, 0), -1);
        due("what 3", x.change(2, 0, 0, 0, 0, 3), -1);
        due("what -1", x.change(2, 0, 0, 0, 0, -1), -1);
        due("13", x.change(13, 0, 0, 0, 0, 0), -1);
        due("not there", x.change(2, 0, 0, 1, 0, 0), -1);
        // Thing 1 lacks before INSTEAD, though the spare one does for it.
        x.instead(1, 0, 100);
        due("lacks before instead", x.change(2, 0, 0, 0, 0, 2), -1);
        x.bonus(0, 1, 9);
        due("lacks before instead", x.change(2, 0, 0, 0, 0, 0), 9);
        due("lacks before instead", x.change(2, 0, 0, 0, 0, 2), 1);
    }

    private static void sures() {
        GiftTable x = new GiftTable();
        due("without", x.sure(0), -1);
        due("without", x.sure(1), -1);
        x.thing(1, 1, 1, 1);
        x.thing(1, 1, 1, 1);
        x.thing(1, 1, 1, 1);
        x.guest(0, 0, 10, 0);
        x.guest(1, 0, 10, 0);
        x.guest(2, 0, 10, 0);
        due("no way", x.sure(0), -1);
        read(x, "likes 5;likes 9 if thing=letter and letter>0;coin 100");
        x.way(0, 0);
        due("one each", x.sure(0), 0);
        due("one each", x.sure(1), 1);
        x.guest(2, 0, 10, 0);
        due("two like 2", x.sure(0), 2);
        due("two like 2", x.sure(1), 2);
        x.always(3, 2);
        due("not those who always bring one", x.sure(0), 0);
        due("what", x.sure(2), -1);
        due("what", x.sure(-1), -1);
        x.put(0, 3, 11);
        due("what it can pay", x.sure(0), 1);
        due("what it can pay", x.sure(1), 2);
    }

    private static void images() {
        GiftTable x = thirds();
        x.wed(0);
        due("image", x.image(0), 0);
        due("image 2", x.image(2), -1);
        due("image -1", x.image(-1), -1);
        due("back 2", x.back(2), -1);
        due("back -1", x.back(-1), -1);
        due("not kept", x.back(1), -2);
        x.thing(1, 9, 9, 9);
        x.instead(0, 1, 10);
        x.bonus(0, 1, 10);
        x.put(0, 1, 10);
        x.always(0, 1);
        x.sees(0, 1);
        x.pair(0, 1);
        x.coin(1);
        x.guest(1, 1, 1, 1);
        read(x, "likes 9");
        x.way(0, 1);
        x.image(1);
        due("one giver and another", x.count(3), 2);
        due("back", x.back(0), 0);
        due("status", x.status(), 0);
        int[] counts = {1, 2, 1, 2, 0, 4, 1};
        for (int k = 0; k < counts.length; k++) {
            due("count(" + k + ") behind back", x.count(k), counts[k]);
        }
        due("always", x.of(0, 4), -1);
        due("sees", x.of(0, 5), 0);
        due("with", x.of(0, 6), -1);
        due("mean", x.mean(0), 9500);
        due("way", x.way(0, 0), 0);
        due("coin", x.coin(50), 50);
        due("wedding stays", x.had(0), 1);
        // A text written over the place of one that image 1 keeps does not harm it.
        read(x, "likes 3");
        bad(x, "likes", 5);
        tell(x, "abc");
        due("back to the other", x.back(1), 0);
        due("tape is not kept", x.count(4), 3);
        due("fault is not kept", x.fault(), 5);
        due("its text", x.weight(0, 1, 0), 9);
        due("its bonus", x.bonus(0, 1, 10), 10);
        due("its coin", x.coin(1), 1);
        due("images stay", x.back(0), 0);
        due("images stay", x.back(0), 0);
        due("things", x.count(0), 1);
        x.put(0, 0, 9);
        due("changes do not reach the image", x.back(0), 0);
        due("changes do not reach the image", x.put(0, 0, 9), 1);
        x.thing(1, 9, 9, 9);
        due("a new thing has no bonus", x.bonus(0, 1, 1), 0);
        due("a new guest is alone", x.guest(0, 0, 0, 0), 2);
        due("a new guest is alone", x.of(2, 6), -1);
        x.wed(0);
        x.back(0);
        due("late and wedding are of now", x.brought(2), 4);

        GiftTable y = new GiftTable();
        y.guest(0, 0, 0, 0);
        y.image(0);
        due("first text", read(y, "coin 7"), 0);
        y.way(0, 0);
        y.image(1);
        y.back(0);
        due("first text again", read(y, "coin 8"), 0);
        due("way", y.way(0, 0), -1);
        due("of now", y.weight(0, 4, 0), 8);
        y.back(1);
        due("of then", y.weight(0, 4, 0), 7);
    }

    private static void countsAndStatus() {
        GiftTable x = new GiftTable();
        due("what", x.count(10), -1);
        due("what", x.count(-1), -1);
        x.thing(10, 0, 0, 1);
        x.put(0, 0, 0);
        x.guest(0, 0, 0, 0);
        x.pair(0, 0);
        due("status", x.status(), -3);
        due("status is asked for free", x.status(), -3);
        x.mean(9);
        x.heap(13, 0, 0, 0, 0);
        x.feed(0, 0, 0, 0, 0);
        x.end(99);
        x.weight(9, 9, 9);
        x.round(0, 0);
        x.of(9, 9);
        due("others are not refused", x.status(), -3);
        x.row();
        due("status", x.status(), 0);
        x.row();
        due("status", x.status(), -6);
        x.sees(0, 1);
        due("status", x.status(), 0);
        x.image(5);
        due("status", x.status(), -1);
        x.image(0);
        due("status", x.status(), 0);
        x.back(1);
        due("status", x.status(), -2);
        x.wed(3);
        due("status", x.status(), 0);
        int[] want = {0, 6, 0, 6, 0, 2, 2, 1, 0, 1};
        for (int k = 0; k < 10; k++) {
            due("count(" + k + ")", x.count(k), want[k]);
        }
        x.back(0);
        due("counters are not kept", x.count(6), 2);
        x.coin(-1);
        due("status", x.status(), -1);
        x.coin(1);
        due("status", x.status(), 0);
        x.always(9, 9);
        due("status", x.status(), -2);
        x.way(0, -1);
        due("status", x.status(), 0);
    }
}
