/** Promises 14 to 18, sentence by sentence: nobody, everybody, none as it is, rows that are no rows. */
public final class EdgesCouplesTest {
    private static final Due DUE = new Due();
    private static final String CHILDREN = "OP02P12P02P12P02P12M45S00S10S20S30S40S50";
    private static final String ALL_SEEN = "OP00P10M00M11M22M33S00S10S01S11S02S12S03S13";

    public static void main(String[] args) throws Exception {
        fewestAndMostCouples();
        asItIs();
        firstCouple();
        couplesRefused();
        coverOfNone();
        coverOfAll();
        coverOfLikeOnes();
        silenceOfNone();
        silenceOfMost();
        silenceRefused();
        noPairs();
        mostPairs();
        firstRow();
        eitherWay();
        howManyDoings();
        howManyFigures();
        placeOfTheFirst();
        noneThatCanNot();
        shownOnes();
        deniedOnes();
        droppedOnes();
        swornOnes();
        noDoing();
        changesNothing();
        DUE.quoted(14, 18, args);
        DUE.end();
    }

    // ---- promise 14

    private static void fewestAndMostCouples() {
        DUE.sentence(14, "COUPLES: how many (what = 0), how many as it is (1), the first (2); NONE.");
        HalfTruths most = Due.court(CHILDREN);
        DUE.is("most", most.couples(0, 0), 30);
        DUE.is("most as it is", most.couples(0, 1), 30);
        DUE.is("their first", most.couples(0, 2), 1);
        String[] none = {"OM45", "OP02M45S00", "OP00P00M45S00S10", "OP10P10M45S00S10", "OP00P10M45S00",
            "OP00P10M45", "OP03P13P02M45S00S10S20", "OP00P10M45M67S01S11"};
        for (String text : none) {
            HalfTruths x = Due.court(text);
            DUE.is(text, x.couples(0, 0), 0);
            DUE.is(text + " as it is", x.couples(0, 1), 0);
            DUE.is(text + " first", x.couples(0, 2), HalfTruths.NONE);
        }
    }

    private static void asItIs() {
        DUE.sentence(14, "how many of them would make it KNOWN as it is");
        for (int half = 0; half <= 9; half++) {
            HalfTruths x = Due.court("OP00P10P01P11P02M" + half + half + "S00S10S20S30S40");
            // Left: 0, 2, 4; right: 1, 3, 4; of these 2 and 3 lie.
            DUE.is("of " + half, x.couples(0, 0), 8);
            DUE.is("of " + half + " as it is", x.couples(0, 1), 3);
            HalfTruths liars = Due.court("OP01P11M" + half + half + "S00S10");
            DUE.is("of liars", liars.couples(0, 0), 1);
            DUE.is("of liars as it is", liars.couples(0, 1), 0);
            HalfTruths left = Due.court("OP01P10M" + half + half + "S00S10");
            DUE.is("of a left liar as it is", left.couples(0, 1), 0);
            HalfTruths right = Due.court("OP00P11M" + half + half + "S00S10");
            DUE.is("of a right liar as it is", right.couples(0, 1), 0);
        }
    }

    private static void firstCouple() {
        DUE.sentence(14, "the first (10 times i and o)");
        for (int i = 0; i < 6; i++) {
            for (int o = 0; o < 6; o++) {
                if (i != o) {
                    StringBuilder text = new StringBuilder("O");
                    for (int p = 0; p < 6; p++) {
                        text.append('P').append(p == o ? 1 : 0).append(p == i || p == o ? 0 : 3);
                    }
                    HalfTruths x = Due.court(text + "M45S00S10S20S30S40S50");
                    DUE.is("the only one", x.couples(0, 2), 10 * i + o);
                    DUE.is("is one", x.couples(0, 0), 1);
                }
            }
        }
        DUE.is("i ahead of o", Due.court("OP10P00P10P00M45S00S10S20S30").couples(0, 2), 10);
        DUE.is("the lesser o", Due.court("OP10P10P10P00M45S10S20S30").couples(0, 2), 31);
    }

    private static void couplesRefused() {
        DUE.sentence(14, "UNKNOWN; OUTSIDE.");
        HalfTruths x = Due.court(ALL_SEEN);
        for (int what = 0; what <= 2; what++) {
            DUE.is("last matter", x.couples(3, what), 1);
            DUE.is("fifth matter", x.couples(4, what), HalfTruths.UNKNOWN);
            DUE.is("matter below", x.couples(-1, what), HalfTruths.UNKNOWN);
        }
        DUE.is("what too low", x.couples(3, -1), HalfTruths.OUTSIDE);
        DUE.is("what too high", x.couples(3, 3), HalfTruths.OUTSIDE);
        DUE.is("both: UNKNOWN", x.couples(4, 3), HalfTruths.UNKNOWN);
        DUE.is("both: UNKNOWN", x.couples(-1, -1), HalfTruths.UNKNOWN);
    }

    // ---- promise 15

    private static void coverOfNone() {
        DUE.sentence(15, "a COUPLE for each MATTER that CAN be known");
        String[] none = {"O", "OP00", "OM00", "OP02M45S00", "OP00P00M45S00S10", "OP03P13M45S00S10",
            "OP00P10M45M67S00S11", "OP00P10P00P10P00P10M45M67M89M00"};
        for (String text : none) {
            DUE.is(text, Due.court(text).cover(), 0);
        }
        DUE.is("one that can, one that can not", Due.court("OP00P10P00M45M67S00S10S21").cover(), 3);
        HalfTruths x = Due.court("OP00P10M45S00S10");
        x.swear(0, 1, 0);
        DUE.is("a known one too", x.cover(), 3);
        x.drop(0);
        DUE.is("known, but it can not be now", x.cover(), 0);
    }

    private static void coverOfAll() {
        DUE.sentence(15, "COVER: the fewest PEOPLE");
        HalfTruths x = Due.court("OP00P10P00P10P00P10M00M00M00S00S10S21S31S42S52");
        DUE.is("all six", x.cover(), 63);
        HalfTruths five = Due.court("OP00P10P10P10P10M00M00M00M00S00S01S10S21S32S43");
        five.show(0, 2);
        five.show(0, 3);
        DUE.is("all five", five.cover(), 31);
        HalfTruths last = Due.court("OP03P03P03P03P02P02M00S40S50");
        DUE.is("the last two", last.cover(), 48);
    }

    private static void coverOfLikeOnes() {
        DUE.sentence(15, "(bits; of like ones the least)");
        DUE.is("children: the least two", Due.court(CHILDREN).cover(), 3);
        DUE.is("by bits, not by the first one", Due.court("OP00P00P10P10M00M00S00S20S01S31S10S11S30").cover(), 9);
        HalfTruths fewer = Due.court("OP00P10P00P10P02P12M00M00S00S10S21S31S40S50S41");
        DUE.is("three, as one child saw but one", fewer.cover(), 1 + 4 + 16);
        fewer.show(5, 1);
        DUE.is("two ahead of a lesser set of four", fewer.cover(), 48);
        HalfTruths two = Due.court("OP00P03P03P00P10P10M00M00S00S50S30S40S01S51S31");
        two.show(4, 1);
        DUE.is("of four twos", two.cover(), 17);
        two.drop(4);
        two.drop(3);
        DUE.is("of four other twos", two.cover(), 9);
    }

    // ---- promise 16

    private static void silenceOfNone() {
        DUE.sentence(16, "(0: there is none as it is)");
        String[] none = {"OM45", "OP02M45S00", "OP00P00M45S00S10", "OP00P10M45S00", "OP03P13M45S00S10",
            "OP00P10M45M67S01S11"};
        for (String text : none) {
            DUE.is(text, Due.court(text).silence(0), 0);
        }
        HalfTruths x = Due.court("OP00P10M45S00S10");
        x.swear(0, 1, 0);
        DUE.is("known or not", x.silence(0), 1);
        x.drop(0);
        DUE.is("known, but no couple", x.silence(0), 0);
    }

    private static void silenceOfMost() {
        DUE.sentence(16, "SILENCE for a MATTER: the fewest (bits, likewise) without whom there is none for it");
        DUE.is("six children: five", Due.court(CHILDREN).silence(0), 31);
        DUE.is("three and three: the least", Due.court("OP00P00P00P10P10P10M45S00S10S20S30S40S50").silence(0), 7);
        DUE.is("three and three: the least", Due.court("OP10P10P10P00P00P00M45S00S10S20S30S40S50").silence(0), 7);
        DUE.is("by turns: the least", Due.court("OP00P10P00P10P00P10M45S00S10S20S30S40S50").silence(0), 21);
        DUE.is("one at last", Due.court("OP00P00P00P00P00P10M45S00S10S20S30S40S50").silence(0), 32);
        DUE.is("1 and 2 ahead of 0 and 5", Due.court("OP10P00P00P00P00P10M45S50S00S10S20").silence(0), 6);
        DUE.is("two ahead of three", Due.court("OP00P00P00P10P10M45S00S10S20S30S40").silence(0), 24);
        // Left: 0, 1, 3; right: 2, 3; without 2 and 3 there is none, nor without 0, 1 and 3.
        DUE.is("a child among them", Due.court("OP00P00P10P02M45S00S10S20S30").silence(0), 12);
        DUE.is("a child and one", Due.court("OP02P10M45S00S10").silence(0), 1);
    }

    private static void silenceRefused() {
        DUE.sentence(16, "SILENCE, as bits. UNKNOWN.");
        HalfTruths x = Due.court(ALL_SEEN);
        DUE.is("last matter", x.silence(3), 1);
        DUE.is("fifth matter", x.silence(4), HalfTruths.UNKNOWN);
        DUE.is("below", x.silence(-1), HalfTruths.UNKNOWN);
        DUE.is("of none", Due.court("OP00").silence(0), HalfTruths.UNKNOWN);
    }

    // ---- promise 17

    private static void match(String text, int many, int row) {
        HalfTruths x = Due.court(text);
        DUE.is(text + " how many", x.match(false), many);
        DUE.is(text + " row", x.match(true), row);
        DUE.is(text + " how many, again", x.match(false), many);
    }

    private static void noPairs() {
        DUE.sentence(17, "0: none");
        match("O", 0, 0);
        match("OP02", 0, 0);
        match("OM45", 0, 0);
        match("OP02M45S00", 0, 0);
        match("OP02P02P02M00M00M00S00S11S22", 0, 0);
        match("OP00P00P00P00P00P00M45S00S10S20S30S40S50", 0, 0);
        match("OP03P03P13M45S00S10S20", 0, 0);
    }

    private static void mostPairs() {
        DUE.sentence(17, "MATCH: the most pairs of two, nobody in two");
        match(CHILDREN, 3, 123456);
        match("OP00P10P10P10P10P10M45S00S10S20S30S40S50", 1, 12);
        match("OP10P10P10P10P10P00M45S00S10S20S30S40S50", 1, 16);
        match("OP02P12P02P12P02M45S00S10S20S30S40", 2, 1234);
        match("OP00P10P00P10P00P10M00M00M00S00S50S11S41S22S32", 3, 162534);
        match("OP03P03P03P03P00P10M00S40S50", 1, 56);
    }

    private static void firstRow() {
        DUE.sentence(17, "(two figures for each pair, 1 more each, the lesser one first, pairs by their first ones; "
                + "the least as a number; 0: none)");
        match("OP10P00M45S00S10", 1, 12);
        match("OP00P00P10P10M45S00S10S20S30", 2, 1324);
        match("OP00P00P00P10P10P10M45S00S10S20S30S40S50", 3, 142536);
        // The least first pair, 12, would leave 3 and 4 of one eye alone.
        match("OP02P10P00P10M45M00S00S10S31S21S01", 2, 1234);
        match("OP00P10P00P00P10M45S00S10S20S30S40", 2, 1235);
        match("OP00P10P10P00M00M00S00S10S20S11S31", 2, 1324);
    }

    private static void eitherWay() {
        DUE.sentence(17, "each of whom are a COUPLE for some MATTER (either way)");
        match("OP10P00M45S00S10", 1, 12);
        match("OP00P10M45S00S10", 1, 12);
        match("OP00P10M00M00M00M00S03S13", 1, 12);
        match("OP00P10M00M00M00M00S03S12", 0, 0);
        match("OP00P10P10P00M00M00S00S10S21S31", 2, 1234);
    }

    // ---- promise 18

    private static void judged(HalfTruths x, int n, int row, int want) {
        DUE.is(n + " doings, " + row, x.judge(n, row), want);
    }

    private static void howManyDoings() {
        DUE.sentence(18, "OUTSIDE: n, row (0 or more, 3 n figures at most).");
        HalfTruths x = Due.court("OP00P10M45S00S10");
        int outside = HalfTruths.OUTSIDE;
        int[] none = {0, 4, -1, 5, 6, Integer.MIN_VALUE, Integer.MAX_VALUE};
        for (int n : none) {
            judged(x, n, 0, outside);
            judged(x, n, 300, outside);
            judged(x, n, -1, outside);
        }
        judged(x, 1, 300, HalfTruths.NONE);
        judged(x, 2, 300301, HalfTruths.NONE);
        judged(x, 3, 300301300, HalfTruths.NONE);
    }

    private static void howManyFigures() {
        DUE.sentence(18, "OUTSIDE: n, row (0 or more, 3 n figures at most).");
        HalfTruths x = Due.court("OP00P10M45S00S10");
        int outside = HalfTruths.OUTSIDE;
        for (int n = 1; n <= 3; n++) {
            judged(x, n, -1, outside);
            judged(x, n, -300, outside);
            judged(x, n, Integer.MIN_VALUE, outside);
            judged(x, n, Integer.MAX_VALUE, outside);
            judged(x, n, 0, 0);
        }
        judged(x, 1, 999, 0);
        judged(x, 1, 1000, outside);
        judged(x, 1, 300301, outside);
        judged(x, 2, 999999, 0);
        judged(x, 2, 1000000, outside);
        judged(x, 2, 300301300, outside);
        judged(x, 3, 999999999, 0);
        judged(x, 3, 1000000000, outside);
        // Their last nine figures could be.
        judged(x, 3, 1300301300, outside);
    }

    private static void placeOfTheFirst() {
        DUE.sentence(18, "the place of the first that can not be");
        HalfTruths x = Due.court("OP00P10P03M45S00S10");
        judged(x, 1, 302, 0);
        judged(x, 2, 302300, 0);
        judged(x, 2, 300302, 1);
        judged(x, 2, 302302, 0);
        judged(x, 3, 302300301, 0);
        judged(x, 3, 300302301, 1);
        judged(x, 3, 300301302, 2);
        judged(x, 3, 300302302, 1);
        judged(x, 2, 300, 0);
        judged(x, 3, 300, 0);
        judged(x, 3, 300301, 0);
    }

    private static void noneThatCanNot() {
        DUE.sentence(18, "NONE: none");
        HalfTruths x = Due.court("OP02P10M45M67S00S10");
        judged(x, 1, 401, HalfTruths.NONE);
        judged(x, 3, 401200401, HalfTruths.NONE);
        judged(x, 3, 101111501, HalfTruths.NONE);
        judged(x, 3, 101111510, 2);
        judged(x, 3, 300300301, HalfTruths.NONE);
        judged(x, 3, 300300401, 2);
        judged(x, 3, 300401300, HalfTruths.NONE);
    }

    private static void shownOnes() {
        DUE.sentence(18, "(1, a PERSON, a MATTER: SHOWN;");
        HalfTruths x = Due.court("OP00P00P00P00P00P03M00M00M00M00S00");
        judged(x, 1, 100, 0);
        judged(x, 1, 101, HalfTruths.NONE);
        judged(x, 1, 153, HalfTruths.NONE);
        judged(x, 1, 163, 0);
        judged(x, 1, 154, 0);
        judged(x, 1, 199, 0);
        judged(x, 2, 153153, 1);
        judged(Due.court("OP00M00"), 1, 110, 0);
        judged(Due.court("OP00M00"), 1, 101, 0);
        judged(Due.court("OP00M00"), 1, 100, HalfTruths.NONE);
    }

    private static void deniedOnes() {
        DUE.sentence(18, "2, 0, a MATTER: DENIED;");
        HalfTruths x = Due.court(ALL_SEEN);
        judged(x, 1, 200, 0);
        x.swear(0, 1, 0);
        x.swear(0, 1, 3);
        judged(x, 1, 200, HalfTruths.NONE);
        judged(x, 1, 203, HalfTruths.NONE);
        judged(x, 1, 202, 0);
        judged(x, 1, 204, 0);
        judged(x, 1, 209, 0);
        judged(x, 1, 210, 0);
        judged(x, 1, 290, 0);
        judged(x, 2, 200200, 1);
    }

    private static void droppedOnes() {
        DUE.sentence(18, "3, 0, a PERSON: DROPPED;");
        HalfTruths x = Due.court("OP00P01P02P12P03P10");
        int[] can = {300, 301, 302, 303, 305};
        for (int row : can) {
            judged(x, 1, row, HalfTruths.NONE);
        }
        judged(x, 1, 304, 0);
        judged(x, 1, 306, 0);
        judged(x, 1, 309, 0);
        judged(x, 1, 310, 0);
        judged(x, 1, 390, 0);
        judged(x, 3, 300300300, HalfTruths.NONE);
    }

    private static void swornOnes() {
        DUE.sentence(18, "4 to 7, then two PEOPLE: they have SWORN (the first one what it says of the left HALF), "
                + "of the MATTER that is 4 less than the first figure");
        HalfTruths x = Due.court(ALL_SEEN);
        for (int first = 4; first <= 7; first++) {
            judged(x, 1, 100 * first + 1, HalfTruths.NONE);
            judged(x, 1, 100 * first + 10, 0);
            judged(x, 1, 100 * first, 0);
            judged(x, 1, 100 * first + 2, 0);
            judged(x, 1, 100 * first + 21, 0);
            judged(x, 2, 1001 * (100 * first + 1), 1);
        }
        judged(x, 3, 401501601, HalfTruths.NONE);
        judged(x, 1, 301, HalfTruths.NONE);
        judged(x, 1, 801, 0);
        judged(Due.court("OP00P10M00M00M00S00S10S01S11S02S12"), 1, 601, HalfTruths.NONE);
        judged(Due.court("OP00P10M00M00M00S00S10S01S11S02S12"), 1, 701, 0);
        x.swear(0, 1, 2);
        judged(x, 1, 601, 0);
        judged(x, 2, 202601, HalfTruths.NONE);
        HalfTruths last = Due.court("OP03P03P03P03P00P10M00M00M00M00S43S53");
        judged(last, 1, 745, HalfTruths.NONE);
        judged(last, 1, 754, 0);
        judged(last, 1, 746, 0);
        judged(last, 1, 765, 0);
        DUE.sentence(18, "i sees its left HALF, o its right one, and they are two");
        judged(Due.court("OP02P02M00S00S10"), 1, 400, 0);
        judged(Due.court("OP02P02M00S00S10"), 1, 411, 0);
        judged(Due.court("OP02P02M00S00S10"), 2, 401410, 1);
    }

    private static void noDoing() {
        DUE.sentence(18, "told as three figures each (the first one's are the highest of row)");
        HalfTruths x = Due.court(ALL_SEEN);
        for (int rest = 0; rest <= 99; rest++) {
            judged(x, 1, rest, 0);
            judged(x, 1, 800 + rest, 0);
            judged(x, 1, 900 + rest, 0);
        }
    }

    private static void changesNothing() {
        DUE.sentence(18, "In what follows nothing is changed.");
        String text = "OP02P10P00M45M67S00S10";
        int[] rows = {401200401, 300300300, 121120401, 300401302, 999999999};
        for (int row : rows) {
            HalfTruths x = Due.court(text);
            x.judge(3, row);
            DUE.same("judge " + row, Due.whole(Due.court(text)), Due.whole(x));
        }
        HalfTruths y = Due.court(text);
        y.couples(0, 2);
        y.cover();
        y.silence(0);
        y.match(true);
        DUE.same("what else is asked", Due.whole(Due.court(text)), Due.whole(y));
    }
}
