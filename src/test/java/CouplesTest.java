/** Promises 14 to 18: COUPLES, COVER, SILENCE, MATCH, JUDGED. */
public final class CouplesTest {
    private static final Due DUE = new Due();

    public static void main(String[] args) {
        couples();
        covers();
        silences();
        matches();
        judgedOnes();
        judgedRows();
        judgedRefused();
        DUE.end();
    }

    private static void couples() {
        HalfTruths x = Due.court("OP10P00P11P02P03M45M67S00S10S20S30S40");
        String before = Due.picture(x);
        // Left: 1, 3; right: 0, 2 (a liar), 3.
        DUE.is("Promise 14: how many", x.couples(0, 0), 5);
        DUE.is("Promise 14: as it is", x.couples(0, 1), 3);
        DUE.is("Promise 14: first", x.couples(0, 2), 10);
        DUE.is("Promise 14: none", x.couples(1, 0), 0);
        DUE.is("Promise 14: none as it is", x.couples(1, 1), 0);
        DUE.is("Promise 14: NONE", x.couples(1, 2), HalfTruths.NONE);
        DUE.is("Promise 14: UNKNOWN", x.couples(2, 0), HalfTruths.UNKNOWN);
        DUE.is("Promise 14: UNKNOWN first", x.couples(-1, 3), HalfTruths.UNKNOWN);
        DUE.is("Promise 14: OUTSIDE", x.couples(0, 3), HalfTruths.OUTSIDE);
        DUE.is("Promise 14: OUTSIDE", x.couples(0, -1), HalfTruths.OUTSIDE);
        DUE.same("Promise 14: nothing", before, Due.picture(x));
        x.swear(1, 2, 0);
        DUE.is("Promise 14: known ones too", x.couples(0, 0), 5);
        HalfTruths child = Due.court("OP02M45S00");
        DUE.is("Promise 14: one is not two", child.couples(0, 0), 0);
        DUE.is("Promise 29: can not be known", child.count(3), 0);
        HalfTruths liars = Due.court("OP01P11M45S00S10");
        DUE.is("Promise 14: liars", liars.couples(0, 0), 1);
        DUE.is("Promise 14: liars, as it is", liars.couples(0, 1), 0);
        HalfTruths nought = Due.court("OP00P10M45S00S10");
        DUE.is("Promise 14: first is 01", nought.couples(0, 2), 1);
    }

    private static void covers() {
        DUE.is("Promise 15: nobody", new HalfTruths().cover(), 0);
        DUE.is("Promise 15: nothing can be known", Due.court("OP00P00M45S00S10").cover(), 0);
        DUE.is("Promise 15: a couple", Due.court("OP00P10M45S00S10").cover(), 3);
        // 0 and 1 know matter 0, 2 and 3 matter 1, which 4, a child, saw both.
        HalfTruths x = Due.court("OP00P10P00P10P02M45M67S00S10S21S31S40");
        DUE.is("Promise 15: two couples", x.cover(), 15);
        x.show(4, 1);
        DUE.is("Promise 15: with a child", x.cover(), 1 + 4 + 16);
        DUE.is("Promise 15: of like ones the least", Due.court("OP00P10P10M45S00S10S20").cover(), 3);
        DUE.is("Promise 15: fewer ahead of least", Due.court("OP00P10P12P02M45M67S00S10S20S21S30S31").cover(), 12);
        DUE.is("Promise 15: a matter that can not be", Due.court("OP00P10M45M67S00S10S01").cover(), 3);
    }

    private static void silences() {
        HalfTruths x = Due.court("OP00P10P10P02M45M67M89S00S10S20S11S21S01S31");
        String before = Due.picture(x);
        DUE.is("Promise 16: the one left eye", x.silence(0), 1);
        DUE.is("Promise 16: a left one and a child", x.silence(1), 9);
        DUE.is("Promise 16: none as it is", x.silence(2), 0);
        DUE.is("Promise 16: UNKNOWN", x.silence(3), HalfTruths.UNKNOWN);
        DUE.is("Promise 16: UNKNOWN", x.silence(-1), HalfTruths.UNKNOWN);
        DUE.same("Promise 16: nothing", before, Due.picture(x));
        DUE.is("Promise 16: like ones, the least", Due.court("OP00P10M45S00S10").silence(0), 1);
        DUE.is("Promise 16: children", Due.court("OP02P12P02M45S00S10S20").silence(0), 3);
        DUE.is("Promise 16: fewer ahead of least", Due.court("OP00P00P10M45S00S10S20").silence(0), 4);
        DUE.is("Promise 16: nothing is there", Due.court("OP00").silence(0), HalfTruths.UNKNOWN);
    }

    private static void matches() {
        DUE.is("Promise 17: nobody", new HalfTruths().match(true), 0);
        DUE.is("Promise 17: one pair", Due.court("OP10P00M45S00S10").match(true), 12);
        DUE.is("Promise 17: one pair", Due.court("OP10P00M45S00S10").match(false), 1);
        HalfTruths star = Due.court("OP00P10P10P10M45S00S10S20S30");
        DUE.is("Promise 17: a star", star.match(true), 12);
        // 0 sees left with 1 and 2, who see right; 3 sees left of the matter of 1 alone.
        HalfTruths more = Due.court("OP00P10P10P00M45M67S00S10S20S11S31");
        DUE.is("Promise 17: more pairs ahead of the least", more.match(true), 1324);
        DUE.is("Promise 17: how many", more.match(false), 2);
        HalfTruths six = Due.court("OP02P02P02P02P02P02M45S00S10S20S30S40S50");
        DUE.is("Promise 17: three", six.match(false), 3);
        DUE.is("Promise 17: the least", six.match(true), 123456);
        HalfTruths halves = Due.court("OP00P00P00P10P10P10M45S00S10S20S30S40S50");
        DUE.is("Promise 17: left and right", halves.match(true), 142536);
        HalfTruths late = Due.court("OP03P00P10M45S00S10S20");
        DUE.is("Promise 17: not by the first", late.match(true), 23);
        DUE.is("Promise 17: none", Due.court("OP02P00M45S00").match(false), 0);
        DUE.is("Promise 17: none", Due.court("OP02P00M45S00").match(true), 0);
        HalfTruths x = Due.court("OP02P02P02P02P02P02M45S00S10S20S30S40S50");
        DUE.is("Promise 17: then", x.match(true), 123456);
        Due.anew(x, "OP00P10M45S00S10");
        DUE.is("Promise 17: nothing of it is left", x.match(true), 12);
        Due.anew(x, "OP00P10M45S00");
        DUE.is("Promise 17: nothing of it is left", x.match(true), 0);
    }

    private static void judgedOne(HalfTruths x, int row, int want) {
        DUE.is("Promise 18: judge 1 " + row, x.judge(1, row), want);
    }

    private static void judgedOnes() {
        HalfTruths x = Due.court("OP00P10P03M45M18S00S10S01");
        String before = Due.picture(x);
        int none = HalfTruths.NONE;
        judgedOne(x, 111, none);
        judgedOne(x, 120, none);
        judgedOne(x, 100, 0);
        judgedOne(x, 130, 0);
        judgedOne(x, 112, 0);
        judgedOne(x, 200, 0);
        judgedOne(x, 300, none);
        judgedOne(x, 301, none);
        judgedOne(x, 302, 0);
        judgedOne(x, 303, 0);
        judgedOne(x, 310, 0);
        judgedOne(x, 401, none);
        judgedOne(x, 410, 0);
        judgedOne(x, 400, 0);
        judgedOne(x, 402, 0);
        judgedOne(x, 409, 0);
        judgedOne(x, 501, 0);
        judgedOne(x, 601, 0);
        judgedOne(x, 0, 0);
        judgedOne(x, 1, 0);
        judgedOne(x, 801, 0);
        judgedOne(x, 901, 0);
        judgedOne(x, 999, 0);
        DUE.same("Promise 18: nothing", before, Due.picture(x));
        x.swear(0, 1, 0);
        judgedOne(x, 401, 0);
        judgedOne(x, 200, none);
        judgedOne(x, 210, 0);
        judgedOne(x, 201, 0);
        judgedOne(x, 202, 0);
        HalfTruths four = Due.court("OP00P10M00M11M22M33S00S10S01S11S02S12S03S13");
        judgedOne(four, 401, none);
        judgedOne(four, 501, none);
        judgedOne(four, 601, none);
        judgedOne(four, 701, none);
        judgedOne(four, 801, 0);
    }

    private static void judgedRows() {
        HalfTruths x = Due.court("OP00P10M45M18S00S10S01");
        String before = Due.picture(x);
        int none = HalfTruths.NONE;
        DUE.is("Promise 18: seen, then sworn", x.judge(2, 111501), none);
        DUE.is("Promise 18: sworn too early", x.judge(2, 501111), 0);
        DUE.is("Promise 18: sworn twice", x.judge(2, 401401), 1);
        DUE.is("Promise 18: denied between", x.judge(3, 401200401), none);
        DUE.is("Promise 18: denied twice", x.judge(3, 401200200), 2);
        DUE.is("Promise 18: dropped, sworn the other way", x.judge(3, 300301410), none);
        DUE.is("Promise 18: dropped, so no couple", x.judge(3, 300401111), 1);
        DUE.is("Promise 18: the first of two", x.judge(3, 401401100), 1);
        DUE.is("Promise 18: shown twice", x.judge(2, 111111), 1);
        DUE.is("Promise 18: noughts ahead", x.judge(2, 401), 0);
        DUE.is("Promise 18: noughts ahead", x.judge(3, 401200), 0);
        DUE.is("Promise 18: a child that is plain", Due.court("OP02P12M45S00S10").judge(2, 300401), none);
        DUE.is("Promise 18: a child that is plain", Due.court("OP02P12M45S00S10").judge(2, 301410), 1);
        DUE.same("Promise 18: nothing", before, Due.picture(x));
        DUE.is("Promise 18: not in the row", x.undo(), HalfTruths.STATE);
        HalfTruths full = Due.court("OP00P10M45S00S10");
        for (int k = 0; k < 14; k++) {
            full.drop(0);
        }
        DUE.is("Promise 18: a full row is no hindrance", full.judge(1, 300), none);
    }

    private static void judgedRefused() {
        HalfTruths x = Due.court("OP00P10M45M18S00S10S01");
        DUE.is("Promise 18: n 0", x.judge(0, 0), HalfTruths.OUTSIDE);
        DUE.is("Promise 18: n 4", x.judge(4, 0), HalfTruths.OUTSIDE);
        DUE.is("Promise 18: n -1", x.judge(-1, 0), HalfTruths.OUTSIDE);
        DUE.is("Promise 18: n far", x.judge(Integer.MAX_VALUE, 0), HalfTruths.OUTSIDE);
        DUE.is("Promise 18: row below", x.judge(1, -1), HalfTruths.OUTSIDE);
        DUE.is("Promise 18: row far below", x.judge(3, Integer.MIN_VALUE), HalfTruths.OUTSIDE);
        DUE.is("Promise 18: row of 4 figures", x.judge(1, 1000), HalfTruths.OUTSIDE);
        DUE.is("Promise 18: row of 3 figures", x.judge(1, 999), 0);
        DUE.is("Promise 18: row of 7 figures", x.judge(2, 1000000), HalfTruths.OUTSIDE);
        DUE.is("Promise 18: row of 6 figures", x.judge(2, 999999), 0);
        DUE.is("Promise 18: row of 10 figures", x.judge(3, 1000000000), HalfTruths.OUTSIDE);
        DUE.is("Promise 18: row of 9 figures", x.judge(3, 999999999), 0);
    }
}
