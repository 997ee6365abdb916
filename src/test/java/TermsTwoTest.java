/** Terms II, the TAPE, the language and the WEIGHTS: each sentence that names a boundary, in the document's order. */
public final class TermsTwoTest extends Sentences {
    public static void main(String[] args) {
        room();
        sortsHaveNoWay();
        tokens();
        bytes();
        clauses();
        tests();
        sums();
        partNames();
        numbers();
        fiftyParts();
        eightBrackets();
        faults();
        askedOf();
        broken();
        cutTowardsNothing();
        holds();
        orAndAnd();
        weightOfThings();
        weightOfCoin();
        chances();
        end("Terms II");
    }

    /** A text that is read, and one that is not: its FAULT. */
    private static void good(String words, String text) {
        says(16, words, "tape:" + text, "text() -> 0", "fault() -> -1", "status() -> 0", "count(2) -> 1", "count(4) -> 0");
    }

    private static void bad(String words, String text, int place) {
        says(17, words, "tape:" + text, "text() -> -6", "fault() -> " + place, "status() -> -6", "count(2) -> 0",
            "count(4) -> 0", "count(9) -> 1");
    }

    /** WEIGHT of THING 1 by a text, for GIVER 0: what its words are there stands in partNames(). */
    private static void tells(int promise, String words, String text, int weight) {
        says(promise, words, "thing(0, 0, 0, 1)", "thing(4, 33, 5, 20)", "guest(3, 40, 90, 2)", "guest(0, 0, 0, 0)",
            "guest(0, 0, 10, 0)", "pair(0, 2)", "tape:" + text, "text() -> 0", "way(2, 0)", "weight(0, 1, 0) -> " + weight);
    }

    private static void room() {
        String[] five = rows("tape:coin 1", "text() -> 0", "tape:coin 1", "text() -> 1", "tape:coin 1", "text() -> 2",
            "tape:coin 1", "text() -> 3", "tape:coin 1", "text() -> 4");
        says(16, "WAYS are TEXTS, 6 at most", "count(2) -> 0", five, "way(0, 5) -> -2", "tape:coin 1", "text() -> 5",
            "way(0, 5) -> -1", "way(0, 6) -> -2", "tape:coin 1", "text() -> -5", "count(2) -> 6");
        says(16, "WAYS are TEXTS, 6 at most", five, "tape:coin", "text() -> -6", "tape:coin 1", "text() -> 5");
        String full = "likes 1" + " ".repeat(392);
        says(16, "on a TAPE of at most 400 bytes", "tape:" + full + " ", "count(4) -> 400", "feed(0, 0, 0, 0, 0) -> -1",
            "count(4) -> 400", "text() -> 0", "count(4) -> 0");
        bad("on a TAPE of at most 400 bytes", full + "?", 399);
        bad("on a TAPE of at most 400 bytes", "likes" + " ".repeat(395), 400);
        good("on a TAPE of at most 400 bytes", " ".repeat(394) + "coin 1");
    }

    private static void sortsHaveNoWay() {
        says(18, "SORTS have one each (NONE at first: they bring COIN)", "way(0, -1) -> -1", "way(1, -1) -> -1",
            "way(2, -1) -> -1", "way(3, -1) -> -1", "way(4, -1) -> -1", "way(5, -1) -> -1", "thing(1, 90, 0, 1)",
            "guest(0, 0, 10, 0)", "guest(0, 0, 10, 5)", "none(0) -> 1000000", "mean(0) -> 1000", "weight(0, 0, 0) -> 0",
            "weight(0, 4, 0) -> 1", "wed(0) -> 10", "tape:likes 1", "text() -> 0", "way(5, 0) -> -1", "mean(0) -> 9500",
            "weight(0, 0, 0) -> 0", "weight(1, 0, 0) -> 1", "way(5, -1) -> 0", "mean(0) -> 1000");
    }

    private static void tokens() {
        String words = "longest rows of letters a .. z, of digits, single other bytes, any blanks (32) between";
        good(words, "likes1if1=1and2>1or3<4;coin5");
        good(words, "   likes   1   if   1   =   1   ;   coin   5   ");
        good(words, "likes[1]if(1=1)");
        bad(words, "likesthing", 0);
        bad(words, "like s 1", 0);
        bad(words, "  like s 1", 2);
        bad(words, "likes 1 0", 8);
        bad(words, "likes 10 00", 9);
        bad(words, "likes ag e", 6);
        bad(words, "likes ages", 6);
        bad(words, "likes 1if1=1andnot1=2", 12);
        good(words, "likes 1if1=1and not1=2");
        good(words, "likes 1if1=1and[1]=1");
        bad(words, "likes 1a", 7);
        bad(words, "likes a1", 6);
        good(words, "likes 1000");
        bad(words, "likes 10001", 6);
    }

    /** Any byte behind "likes 1": what can go on there, and the edges of letters, digits and blanks. */
    private static void bytes() {
        String words = "FAULT: the first TOKEN that can't go on there (the end's: the TEXT's length).";
        for (char sign = 0; sign < 256; sign++) {
            String text = "likes 1" + sign;
            if (sign == ' ' || sign >= '0' && sign <= '9') {
                good(words, text);
            } else {
                bad(words, text, "+-*/;".indexOf(sign) >= 0 ? 8 : 7);
            }
        }
    }

    private static void clauses() {
        String most = "12 at most (FAULT at the 13th's first TOKEN)";
        good(most, many(12, "likes 1", ";"));
        good(most, many(6, "likes 1;coin 1", " ; "));
        bad(most, many(13, "likes 1", ";"), 96);
        bad(most, many(12, "likes 1", ";") + "; coin 1", 97);
        bad(most, many(12, "likes 1", ";") + ";?", 96);
        bad(most, many(12, "likes 1", ";") + ";", 96);
        bad(most, many(12, "likes 1", ";") + " 1", 96);
        bad(most, many(13, "likes 1;", " "), 12 * 9);
        String clause = "(\"likes\" | \"coin\") SUM [\"if\" TEST]";
        good(clause, "likes 1");
        good(clause, "coin 1");
        for (String no : new String[] {"xikes", "likex", "like", "likess", "xoin", "coix", "coi", "coinn", "likescoin"}) {
            bad(clause, no + " 1", 0);
        }
        for (String no : new String[] {"xf", "ix", "i", "iff", "then"}) {
            bad(clause, "likes 1 " + no + " 1=1", 8);
        }
        good(clause, "likes 1 if 1=1");
        good(clause, "coin 1 if 1=1");
        bad(clause, ";likes 1", 0);
        bad(clause, "likes 1;", 8);
        bad(clause, "likes 1;;coin 1", 8);
        bad(clause, "if 1=1", 0);
        bad(clause, "1", 0);
        bad(clause, "Likes 1", 0);
        bad(clause, "likes", 5);
        bad(clause, "coin", 4);
        bad(clause, "coin ", 5);
        bad(clause, "likes if 1=1", 6);
        bad(clause, "likes ;coin 1", 6);
        bad(clause, "likes 1 if", 10);
        bad(clause, "likes 1 if;coin 1", 10);
        bad(clause, "likes 1 likes 2", 8);
        bad(clause, "coin 1 coin 2", 7);
        bad(clause, "likes 1 coin 2", 8);
        bad(clause, "coin 1 if 1=1 if 1=1", 14);
        bad(clause, "likes 1 or 1=1", 8);
        bad(clause, "likes 1=1", 7);
    }

    private static void tests() {
        String test = "TEST: BOTH {\"or\" BOTH}.";
        good(test, "likes 1 if 1=1 or 1=1 or 1=1");
        for (String no : new String[] {"xr", "ox", "o", "orr", "xnd", "axd", "anx", "an", "andd", "xor", "orand"}) {
            bad(test, "likes 1 if 1=1 " + no + " 1=1", 15);
        }
        bad(test, "likes 1 if 1=1 or", 17);
        bad(test, "likes 1 if or 1=1", 11);
        bad(test, "likes 1 if 1=1 or or 1=1", 18);
        bad(test, "likes 1 if 1=1 1=1", 15);
        String both = "BOTH: PLAIN {\"and\" PLAIN}.";
        good(both, "likes 1 if 1=1 and 1=1 and 1=1 or 1=1 and 1=1");
        bad(both, "likes 1 if 1=1 and", 18);
        bad(both, "likes 1 if and 1=1", 11);
        bad(both, "likes 1 if 1=1 and or 1=1", 19);
        String plain = "PLAIN: \"not\" PLAIN | \"(\" TEST \")\" | SUM (\"<\" | \">\" | \"=\") SUM.";
        good(plain, "likes 1 if not not not (1<2)");
        good(plain, "likes 1 if (1=1 or (2>1 and not 3<2))");
        good(plain, "likes 1 if " + many(96, "not", " ") + " 1=1");
        bad(plain, "likes 1 if " + many(97, "not", " ") + " 1", 400);
        for (String no : new String[] {"xot", "nxt", "nox", "no", "nott", "notnot"}) {
            bad(plain, "likes 1 if " + no + " 1=1", 11);
        }
        bad(plain, "likes 1 if not", 14);
        bad(plain, "likes 1 if not or 1=1", 15);
        bad(plain, "likes 1 if 1 not = 1", 13);
        bad(plain, "likes 1 if ()", 12);
        bad(plain, "likes 1 if (1=1", 15);
        bad(plain, "likes 1 if (1=1]", 15);
        bad(plain, "likes 1 if (1=1))", 16);
        bad(plain, "likes 1 if (1)=1", 13);
        bad(plain, "likes 1 if (1=1)=1", 16);
        bad(plain, "likes 1 if 1", 12);
        bad(plain, "likes 1 if 1;coin 1", 12);
        bad(plain, "likes 1 if 1=", 13);
        bad(plain, "likes 1 if 1<=1", 13);
        bad(plain, "likes 1 if 1=1=1", 14);
        bad(plain, "likes 1 if =1", 11);
    }

    private static void sums() {
        String sum = "SUM: TERM {(\"+\" | \"-\") TERM}.";
        good(sum, "likes 1+2-3+4-5");
        bad(sum, "likes 1+", 8);
        bad(sum, "likes +1", 6);
        bad(sum, "likes -1", 6);
        bad(sum, "likes 1+-1", 8);
        bad(sum, "likes 1-;coin 1", 8);
        String term = "TERM: PART {(\"*\" | \"/\") PART}.";
        good(term, "likes 1*2/3*4/5");
        bad(term, "likes 1*", 8);
        bad(term, "likes 1/ ", 9);
        bad(term, "likes *1", 6);
        bad(term, "likes 1**1", 8);
        bad(term, "likes 1/+1", 8);
        String part = "PART: NUMBER (to 1,000) | \"[\" SUM \"]\"";
        good(part, "likes [1]+[[2]*3]");
        bad(part, "likes []", 7);
        bad(part, "likes [1", 8);
        bad(part, "likes [1)", 8);
        bad(part, "likes [1]]", 9);
        bad(part, "likes [1]1", 9);
        bad(part, "likes (1)", 6);
        bad(part, "likes ]1", 6);
        bad(part, "likes likes", 6);
        bad(part, "likes not", 6);
        bad(part, "likes 1 if [1=1]", 13);
    }

    private static void partNames() {
        String part = "\"thing\" | \"wanted\" | \"worth\" | \"price\" | \"letter\" | \"age\" | \"purse\" | \"sort\" | \"givers\""
            + " | \"struck\"";
        tells(19, part, "likes thing", 1);
        tells(19, part, "likes wanted", 4);
        tells(19, part, "likes worth", 33);
        tells(19, part, "likes price", 20);
        tells(19, part, "likes letter", 3);
        tells(19, part, "likes age", 40);
        tells(19, part, "likes purse", 100);
        tells(19, part, "likes sort", 2);
        tells(19, part, "likes givers", 2);
        tells(19, part, "likes struck+7", 7);
        for (String word : new String[] {"thing", "wanted", "worth", "price", "letter", "age", "purse", "sort", "givers",
            "struck"}) {
            good(part, "likes 1+" + word);
            for (int at = 0; at < word.length(); at++) {
                bad(part, "likes 1+" + word.substring(0, at) + "x" + word.substring(at + 1), 8);
                bad(part, "likes 1+" + word.substring(0, at) + word.charAt(at) + word.substring(at), 8);
            }
        }
        for (String no : new String[] {"things", "thin", "want", "extra", "letters", "guest", "givers0", "x", "strucks",
            "thingthing", "coins", "value"}) {
            bad(part, "likes 1+" + no, no.equals("givers0") ? 14 : 8);
        }
    }

    private static void numbers() {
        String words = "PART: NUMBER (to 1,000)";
        tells(19, words, "likes 0", 0);
        tells(19, words, "likes 0000", 0);
        tells(19, words, "likes 1000", 1000);
        tells(19, words, "likes 999", 999);
        tells(19, words, "likes 0000000000000000000001000", 1000);
        bad(words, "likes 1001", 6);
        bad(words, "likes 2000", 6);
        bad(words, "likes 0000000000001001", 6);
        bad(words, "likes 2147483648", 6);
        bad(words, "likes 4294967296", 6);
        bad(words, "likes 4294967297", 6);
        bad(words, "likes 18446744073709551617", 6);
        bad(words, "likes " + "9".repeat(394), 6);
        bad(words, "likes 1 if 1=1001", 13);
    }

    private static void fiftyParts() {
        String words = "50 PARTS that are NUMBERS and words (FAULT at the 51st)";
        good(words, "likes " + many(50, "1", "+"));
        bad(words, "likes " + many(51, "1", "+"), 106);
        good(words, "likes " + many(50, "age", "+"));
        bad(words, "likes " + many(51, "age", "+"), 206);
        bad(words, "likes " + many(50, "age", "+") + "+ 1", 207);
        bad(words, "likes " + many(50, "1", "+") + "+[1]", 107);
        bad(words, "likes " + many(50, "1", "+") + "+?", 106);
        bad(words, "likes " + many(50, "1", "+") + "+1001", 106);
        good(words, "likes " + many(50, "1", "+") + "1");
        good(words, "likes 1 if " + many(24, "1=1", " or ") + ";coin 1");
        bad(words, "likes 1 if " + many(24, "1=1", " or ") + ";coin 1+1", 11 + 23 * 7 + 3 + 1 + 5 + 2);
        bad(words, "likes 1 if " + many(25, "1=1", " or "), 11 + 24 * 7 + 2);
        // Words that are no PARTS and brackets are not counted.
        good(words, "likes 1 if not (" + many(24, "[1]=1", " or ") + ");coin 1");
        // A TEXT that was not read leaves nothing to the next one's count.
        says(16, words, "tape:likes " + many(51, "1", "+"), "text() -> -6", "tape:likes " + many(50, "1", "+"),
            "text() -> 0", "tape:likes " + many(50, "1", "+"), "text() -> 1", "fault() -> -1");
        // Six long ones: each keeps what it is.
        String[] long6 = new String[0];
        for (int k = 0; k < 6; k++) {
            long6 = rows(long6, "tape:likes [" + many(49, "1", "+") + "]*" + (k + 1), "text() -> " + k);
        }
        says(16, words, "thing(1, 1, 1, 1)", "guest(0, 0, 1, 0)", long6, "way(0, 5)", "weight(0, 0, 0) -> 294", "way(0, 0)",
            "weight(0, 0, 0) -> 49", "way(0, 3)", "weight(0, 0, 0) -> 196");
    }

    private static void eightBrackets() {
        String words = "8 brackets of both kinds within one another (FAULT at the 9th) at most.";
        good(words, "likes [[[[[[[[1]]]]]]]]");
        bad(words, "likes [[[[[[[[[1]]]]]]]]]", 14);
        good(words, "likes 1 if ((((((((1=1))))))))");
        bad(words, "likes 1 if (((((((((1=1)))))))))", 19);
        good(words, "likes 1 if ((((((([1]=1)))))))");
        bad(words, "likes 1 if (((((((([1]=1))))))))", 19);
        bad(words, "likes 1 if ((((([[[[1]]]]=1)))))", 19);
        good(words, "likes 1 if ((((([[[1]]]=[[[1]]])))))");
        bad(words, "likes 1 if ((((([[[1]]]=[[[[1]]]])))))", 27);
        // One behind the other they are not within one another.
        good(words, "likes " + many(10, "[1]", "+"));
        good(words, "likes [[[[[[[[1]]]]]]]]+[[[[[[[[1]]]]]]]];coin [[[[[[[[1]]]]]]]] if ((((((((1=1))))))))");
        good(words, "likes 1 if " + many(10, "(1=1)", " or "));
        good(words, "likes 1 if ([[[[[[[1]]]]]]]=1 and (((((((1=1))))))))");
        bad(words, "likes 1 if ([[[[[[[1]]]]]]]=1 and ((((((((1=1)))))))))", 41);
    }

    private static void faults() {
        String words = "FAULT: the first TOKEN that can't go on there (the end's: the TEXT's length).";
        bad(words, "", 0);
        bad(words, " ", 1);
        bad(words, "       ", 7);
        bad(words, "likes 1 +  ", 11);
        bad(words, "likes   1001", 8);
        bad(words, "likes 1   xyz 1", 10);
        bad(words, "likes 1 ? ?", 8);
        bad(words, "likes 1;  xyz", 10);
        bad(words, "coin 1;likes [1+2;coin 3", 17);
        bad(words, "coin 1;likes 1001;xyz", 13);
        bad(words, "likes 1 if 1=1 and (2=2 or 3)", 28);
        bad(words, "\t", 0);
    }

    private static void askedOf() {
        String giver = "It is asked of a GIVER (purse: all it has; givers: how many there are)";
        says(19, giver, "thing(1, 1, 1, 1)", "guest(0, 0, 200, 0)", "guest(0, 0, 200, 0)", "guest(0, 0, 1, 0)",
            "tape:likes purse*givers;coin purse+givers", "text() -> 0", "way(0, 0)", "weight(0, 0, 0) -> 600",
            "weight(0, 4, 0) -> 203", "pair(0, 1)", "weight(0, 0, 0) -> 800", "weight(0, 4, 0) -> 402",
            "weight(2, 4, 0) -> 3", "weight(1, 4, 0) -> -1");
        String struck = "struck: how many of it are struck from the list, for one who SEES it; else 0";
        says(19, struck, "thing(1, 1, 1, 1)", "guest(0, 0, 1, 0)", "tape:likes 5+struck;coin 5+struck", "text() -> 0",
            "way(0, 0)", "weight(0, 0, 0) -> 5", "weight(0, 0, 12) -> 5", "weight(0, 4, 12) -> 5", "sees(0, 1)",
            "weight(0, 0, 0) -> 5", "weight(0, 0, 1) -> 6", "weight(0, 0, 12) -> 17", "weight(0, 4, 12) -> 5");
        String coin = "or of COIN (thing 4, wanted, worth, price, struck 0)";
        says(19, coin, "thing(9, 99, 99, 200)", "guest(1, 2, 3, 4)", "tape:coin thing*100+wanted+worth+price+struck",
            "text() -> 0", "way(4, 0)", "weight(0, 4, 0) -> 400", "sees(0, 1)", "weight(0, 4, 9) -> 400",
            "tape:coin letter*100+age*10+purse+sort+givers", "text() -> 1", "way(4, 1)", "weight(0, 4, 0) -> 128");
    }

    private static void broken() {
        String words = "Beyond 1,000,000,000 either way, or divided by 0, a SUM, a TEST is BROKEN";
        tells(19, words, "likes 1;likes 1000*1000*1000/1000/1000", 1000);
        tells(19, words, "likes 1;likes [1000*1000*1000+1]/1000/1000", 1);
        tells(19, words, "likes 1;likes [1000*1000*1000+1-1]/1000/1000", 1);
        tells(19, words, "likes 1;likes 1000*1000*1000+0-1000*1000*1000+2", 2);
        tells(19, words, "likes 1;likes 7+[0-1000*1000*1000]/1000/1000/1000", 6);
        tells(19, words, "likes 1;likes 7+[0-1000*1000*1000-1]/1000/1000/1000", 1);
        tells(19, words, "likes 1;likes 7+[0-1000]*1000*1000/1000/1000/1000", 6);
        tells(19, words, "likes 1;likes [999*999*999+2*1000*1000]/1000/1000", 999);
        tells(19, words, "likes 1;likes 1000*1000*1000*1000", 1);
        tells(19, words, "likes 1;likes 0*[1000*1000*1000*1000]", 1);
        tells(19, words, "likes 1;likes " + many(20, "1000", "*"), 1);
        tells(19, words, "likes 1;likes 1000*1000*1000*10-1000", 1);
        tells(19, words, "likes 1;likes 1/0", 1);
        tells(19, words, "likes 1;likes 0/0", 1);
        tells(19, words, "likes 1;likes 5+0*[1/[3-letter]]", 1);
        tells(19, words, "likes 1;likes 2 if 1000*1000*1000=1000*1000*1000", 2);
        tells(19, words, "likes 1;likes 2 if 1000*1000*1000+1>0", 1);
        tells(19, words, "likes 1;likes 2 if 0<1000*1000*1000+1", 1);
        tells(19, words, "likes 1;likes 2 if 0-1000*1000*1000-1<0", 1);
        tells(19, words, "likes 1;likes 2 if 0-1000*1000*1000<0", 2);
        tells(19, words, "likes 1;likes 2 if 1/0=1/0", 1);
        tells(19, words, "likes 1;likes 2 if not 1/0=0", 1);
        tells(19, words, "likes 1;likes 2 if not not 1/0=0", 1);
        tells(19, words, "likes 1;likes 2 if not (1/0=0)", 1);
        says(19, words, "guest(0, 0, 0, 0)", "tape:coin 7;coin 8/0;coin 9 if 1/0=1", "text() -> 0", "way(0, 0)",
            "weight(0, 4, 0) -> 7");
    }

    private static void cutTowardsNothing() {
        String words = "/ is cut towards 0.";
        tells(19, words, "likes 7/2", 3);
        tells(19, words, "likes 1/2", 0);
        tells(19, words, "likes 10+[0-7]/2", 7);
        tells(19, words, "likes 10+7/[0-2]", 7);
        tells(19, words, "likes 10+[0-7]/[0-2]", 13);
        tells(19, words, "likes 10+[0-1]/2", 10);
        tells(19, words, "likes 10+[0-1]/1000", 10);
        tells(19, words, "likes 7/2*2", 6);
    }

    private static void holds() {
        String words = "A CLAUSE HOLDS, if its \"if\" (if it has one) is so, and neither that nor its SUM is BROKEN";
        tells(19, words, "likes 1;likes 2", 2);
        tells(19, words, "likes 1;likes 2 if 1=1", 2);
        tells(19, words, "likes 1;likes 2 if 1=2", 1);
        tells(19, words, "likes 1;likes 2/0 if 1=1", 1);
        tells(19, words, "likes 1;likes 2 if 1=1/0", 1);
        tells(19, words, "likes 1;likes 2/0 if 1=2", 1);
        tells(19, words, "likes 1 if 1<1;likes 2 if 1>1;likes 3 if 2<1;likes 4 if 1>2", 0);
        tells(19, words, "likes 1 if 1<2", 1);
        tells(19, words, "likes 1 if 2>1", 1);
        tells(19, words, "likes 1 if not 1=1", 0);
        tells(19, words, "likes 1 if not not 1=1", 1);
        tells(19, words, "likes 1 if not 1<1", 1);
        tells(19, words, "likes 1 if not 1>1", 1);
        tells(19, words, "likes 1 if not 1<2", 0);
        tells(19, words, "likes 1 if not 2>1", 0);
        tells(19, words, "likes 1 if not not not 1=1", 0);
        tells(19, words, "likes 1 if not (not 1=1)", 1);
        tells(19, words, "likes 1 if not (not 1=2)", 0);
        tells(19, words, "likes 1 if not (not (not 1=2))", 1);
        tells(19, words, "likes 1 if not 1=2 and 1=2", 0);
        tells(19, words, "likes 1 if not (1=2 and 1=2)", 1);
        tells(19, words, "likes 1 if 1=1 or 1=1 and 1=2", 1);
        tells(19, words, "likes 1 if (1=1 or 1=1) and 1=2", 0);
        tells(19, words, "likes 1 if 1=2 and 1=1 or 1=1", 1);
    }

    private static void orAndAnd() {
        String words = "\"or\", \"and\" ask what stands behind only if it can still matter";
        tells(19, words, "likes 2 if 1=1 or 1/0=1", 2);
        tells(19, words, "likes 2 if 1=2 or 1/0=1", 0);
        tells(19, words, "likes 2 if 1=2 or 1=1 or 1/0=1", 2);
        tells(19, words, "likes 2 if 1=1 or 1/0=1 or 1/0=1", 2);
        tells(19, words, "likes 2 if 1=1 or 1=1 and 1/0=1", 2);
        tells(19, words, "likes 2 if 1=1 or (1/0=1 and 1=1)", 2);
        tells(19, words, "likes 2 if 1/0=1 or 1=1", 0);
        tells(19, words, "likes 2 if not (1=2 and 1/0=1)", 2);
        tells(19, words, "likes 2 if not (1=1 and 1/0=1)", 0);
        tells(19, words, "likes 2 if not (1=2 and 1/0=1 and 1/0=1)", 2);
        tells(19, words, "likes 2 if 1=2 and 1/0=1 or 1=1", 2);
        tells(19, words, "likes 2 if (1=2 and 1/0=1) or 1=1", 2);
        tells(19, words, "likes 2 if 1=1 and 1/0=1 or 1=1", 0);
        tells(19, words, "likes 2 if not (1/0=1 and 1=2)", 0);
        tells(19, words, "likes 2 if (1=1 or 1/0=1) and (1=1 or 1/0=1)", 2);
        tells(19, words, "likes 2 if not (1=1 or 1/0=1) or 1/0=1", 0);
    }

    private static void weightOfThings() {
        String words = "WEIGHT of a THING that it can pay: what the last \"likes\" that HOLDS tells, 0 .. 1000 (else the"
            + " nearest), 0 without";
        tells(19, words, "likes 0", 0);
        tells(19, words, "likes 1", 1);
        tells(19, words, "likes 1000", 1000);
        tells(19, words, "likes 1000+1", 1000);
        tells(19, words, "likes 1000*1000*1000", 1000);
        tells(19, words, "likes 0-1", 0);
        tells(19, words, "likes 0-1000*1000*1000", 0);
        tells(19, words, "likes 9;likes 0", 0);
        tells(19, words, "likes 9;likes 0-9", 0);
        tells(19, words, "likes 9;likes 3;coin 5", 3);
        tells(19, words, "likes 3;likes 9 if 1=2", 3);
        tells(19, words, "coin 5", 0);
        tells(19, words, "coin 5;likes 9 if 1=2", 0);
        says(19, words, "thing(1, 1, 1, 50)", "guest(0, 0, 49, 0)", "guest(0, 0, 50, 0)", "tape:likes 7", "text() -> 0",
            "way(0, 0)", "weight(0, 0, 0) -> 0", "weight(1, 0, 0) -> 7", "pair(0, 1)", "put(0, 3, 99)",
            "weight(0, 0, 0) -> 7", "put(0, 3, 100)", "weight(0, 0, 0) -> 0");
    }

    private static void weightOfCoin() {
        String likewise = "of COIN likewise by \"coin\".";
        says(19, likewise, "guest(0, 0, 0, 0)", "tape:coin 1000+1", "text() -> 0", "tape:coin 5;coin 6 if 1=2;likes 9",
            "text() -> 1", "tape:coin 5;coin 3;coin 7/0", "text() -> 2", "way(0, 0)", "weight(0, 4, 0) -> 1000", "way(0, 1)",
            "weight(0, 4, 0) -> 5", "way(0, 2)", "weight(0, 4, 0) -> 3");
        String all = "If all are 0, COIN has 1.";
        String[] party = rows("thing(1, 1, 1, 10)", "thing(1, 1, 1, 20)", "guest(0, 0, 10, 0)", "way(0, -1)");
        says(19, all, party, "weight(0, 4, 0) -> 1", "tape:likes 0;coin 0", "text() -> 0", "way(0, 0)",
            "weight(0, 0, 0) -> 0", "weight(0, 4, 0) -> 1", "none(0) -> 1000000");
        says(19, all, party, "tape:likes 1 if thing=1;coin 0-5", "text() -> 0", "way(0, 0)", "weight(0, 4, 0) -> 1",
            "put(1, 3, 10)", "weight(0, 4, 0) -> 0", "weight(0, 1, 0) -> 1", "none(1) -> 0");
        says(19, all, party, "tape:likes 5;coin 1", "text() -> 0", "way(0, 0)", "weight(0, 4, 0) -> 1", "none(0) -> 166666");
        says(19, all, party, "sees(0, 1)", "tape:likes struck", "text() -> 0", "way(0, 0)", "weight(0, 4, 0) -> 1",
            "weight(0, 0, 3) -> 3", "tape:likes 0-struck", "text() -> 1", "way(0, 1)", "weight(0, 4, 0) -> 1");
        says(19, all, party, "tape:likes 1/0;coin 1/0", "text() -> 0", "way(0, 0)", "weight(0, 4, 0) -> 1");
    }

    private static void chances() {
        String words = "The CHANCE of a choice is its WEIGHT through all its WEIGHTS";
        String[] party = rows(times(4, "thing(1, 1, 1, 1)"), "guest(0, 0, 1, 0)");
        says(22, words, party, "tape:likes 1000;coin 1000", "text() -> 0", "way(0, 0)", "none(0) -> 800000",
            "none(3) -> 800000");
        says(22, words, party, "tape:likes 1 if thing=2;coin 2", "text() -> 0", "way(0, 0)", "none(2) -> 666666",
            "none(0) -> 1000000");
        says(22, words, party, "tape:likes 1 if thing=3;coin 1", "text() -> 0", "way(0, 0)", "none(3) -> 500000",
            "none(2) -> 1000000", "mean(0) -> 50", "put(3, 1, 50)", "mean(0) -> 2500", "mean(2) -> 350");
        says(22, words, party, "tape:likes 1", "text() -> 0", "way(0, 0)", "none(2) -> 750000", "put(2, 3, 2)",
            "none(2) -> 1000000", "none(0) -> 666666");
        says(22, "(one who ALWAYS brings a THING: that alone)", party, "tape:likes 1000;coin 1000", "text() -> 0", "way(0, 0)",
            "always(0, 3)", "none(3) -> 0", "none(0) -> 1000000", "put(3, 3, 200)", "none(3) -> 0");
    }
}
