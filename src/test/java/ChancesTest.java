/** Promises 22 to 26: SHARES, RESTS, COME, THE SEED, YEARS. */
public final class ChancesTest {
    private static final Due DUE = new Due();

    public static void main(String[] args) {
        shares();
        rests();
        comes();
        seeds();
        years();
        yearsByHand();
        DUE.end();
    }

    private static void share(HalfTruths x, int person, int above, int below) {
        DUE.is("Promise 22: share " + person + " above", x.share(person, true), above);
        DUE.is("Promise 22: share " + person + " below", x.share(person, false), below);
    }

    private static void shares() {
        HalfTruths two = Due.court("OP00P10M45S00S10");
        share(two, 0, 1, 2);
        share(two, 1, 1, 2);
        // One left, two right: the left one brings it in two thirds of the orders.
        HalfTruths three = Due.court("OP00P10P10M45S00S10S20");
        share(three, 0, 2, 3);
        share(three, 1, 1, 6);
        share(three, 2, 1, 6);
        HalfTruths idle = Due.court("OP00P10P03M45S00S10S20");
        share(idle, 0, 1, 2);
        share(idle, 2, 0, 1);
        HalfTruths whole = Due.court("OP00P10M45M18S00S10S01S11");
        share(whole, 0, 1, 1);
        HalfTruths four = Due.court("OP00P10M11M22M33M44S00S10S01S11S02S12S03S13");
        share(four, 1, 2, 1);
        HalfTruths children = Due.court("OP02P02P02P02P02P02M45S00S10S20S30S40S50");
        share(children, 5, 1, 6);
        HalfTruths sum = Due.court("OP00P10P00P12P11P02M45M67S00S10S30S41S51S21");
        int above = 0;
        for (int p = 0; p < 6; p++) {
            above += sum.share(p, true) * (720 / sum.share(p, false));
        }
        DUE.is("Promise 22: all shares make all that can be known", above, 720 * 2);
        HalfTruths alone = Due.court("OP02M45S00");
        share(alone, 0, 0, 1);
        String before = Due.picture(sum);
        share(sum, 6, HalfTruths.UNKNOWN, HalfTruths.UNKNOWN);
        share(sum, -1, HalfTruths.UNKNOWN, HalfTruths.UNKNOWN);
        DUE.same("Promise 22: nothing", before, Due.picture(sum));
    }

    private static void rests() {
        HalfTruths x = Due.court("OP00P10P11P03M45M18S00S10S20S30");
        DUE.is("Promise 23: a couple", x.rests(0, 1, 0, 0), 2);
        DUE.is("Promise 23: a couple, either way", x.rests(1, 0, 0, 0), 2);
        DUE.is("Promise 23: with a liar", x.rests(0, 2, 0, 0), 2);
        DUE.is("Promise 23: first", x.rests(0, 1, 0, 1), 0);
        DUE.is("Promise 23: no couple", x.rests(1, 2, 0, 0), 1);
        DUE.is("Promise 23: no couple, first", x.rests(1, 2, 0, 1), 0);
        DUE.is("Promise 23: a saint", x.rests(0, 3, 0, 0), 1);
        DUE.is("Promise 23: not seen", x.rests(0, 1, 1, 0), 1);
        x.swear(0, 1, 0);
        DUE.is("Promise 23: known or not", x.rests(0, 1, 0, 0), 2);
        DUE.is("Promise 23: UNKNOWN one", x.rests(4, 1, 0, 0), HalfTruths.UNKNOWN);
        DUE.is("Promise 23: UNKNOWN other", x.rests(0, 4, 0, 0), HalfTruths.UNKNOWN);
        DUE.is("Promise 23: UNKNOWN matter", x.rests(0, 1, 2, 0), HalfTruths.UNKNOWN);
        DUE.is("Promise 23: UNKNOWN first", x.rests(0, 0, 2, 0), HalfTruths.UNKNOWN);
        DUE.is("Promise 23: UNKNOWN first", x.rests(-1, -1, 0, 9), HalfTruths.UNKNOWN);
        DUE.is("Promise 23: OUTSIDE one", x.rests(1, 1, 0, 0), HalfTruths.OUTSIDE);
        DUE.is("Promise 23: OUTSIDE what", x.rests(0, 1, 0, 2), HalfTruths.OUTSIDE);
        DUE.is("Promise 23: OUTSIDE what", x.rests(0, 1, 0, -1), HalfTruths.OUTSIDE);
    }

    private static void come(HalfTruths x, int matter, int tenths, int above, int below) {
        DUE.is("Promise 24: come " + tenths + " above", x.come(matter, tenths, true), above);
        DUE.is("Promise 24: come " + tenths + " below", x.come(matter, tenths, false), below);
    }

    private static void comes() {
        HalfTruths two = Due.court("OP00P10M45M18S00S10");
        come(two, 0, 0, 0, 1);
        come(two, 0, 1, 1, 100);
        come(two, 0, 4, 4, 25);
        come(two, 0, 5, 1, 4);
        come(two, 0, 10, 1, 1);
        come(two, 1, 10, 0, 1);
        // One left, two right: x (1 - (1 - x)(1 - x)).
        HalfTruths three = Due.court("OP00P10P10M45S00S10S20");
        come(three, 0, 5, 3, 8);
        come(three, 0, 1, 19, 1000);
        HalfTruths idle = Due.court("OP00P10P03M45S00S10S20");
        come(idle, 0, 3, 9, 100);
        // Two of six children at least: 1 - 0.9^6 - 6 * 0.1 * 0.9^5.
        HalfTruths six = Due.court("OP02P02P02P02P02P02M45S00S10S20S30S40S50");
        come(six, 0, 1, 114265 / 5, 1000000 / 5);
        come(six, 0, 10, 1, 1);
        String before = Due.picture(two);
        come(two, 2, 5, HalfTruths.UNKNOWN, HalfTruths.UNKNOWN);
        come(two, -1, 11, HalfTruths.UNKNOWN, HalfTruths.UNKNOWN);
        come(two, 0, 11, HalfTruths.OUTSIDE, HalfTruths.OUTSIDE);
        come(two, 0, -1, HalfTruths.OUTSIDE, HalfTruths.OUTSIDE);
        DUE.same("Promise 24: nothing", before, Due.picture(two));
        DUE.is("Promise 24: nobody", Due.court("OM45").come(0, 5, false), 1);
    }

    private static void seeds() {
        HalfTruths x = new HalfTruths();
        DUE.is("Promise 25: 0 at first", x.seed(Long.MIN_VALUE), 0);
        DUE.is("Promise 25: what it was", x.seed(-1), Long.MIN_VALUE);
        DUE.is("Promise 25: what it was", x.seed(0), -1);
        x.years(1);
        DUE.is("Promise 25: after a year", x.seed(0), 1442695040888963407L);
        x.seed(1);
        x.years(2);
        long once = 6364136223846793005L + 1442695040888963407L;
        DUE.is("Promise 25: after two", x.seed(0), once * 6364136223846793005L + 1442695040888963407L);
    }

    private static void years() {
        HalfTruths x = Due.court("OP00P10M45S00S10P02");
        x.seed(42);
        x.drop(0);
        x.keep(0);
        long seed = x.seed(42);
        String before = Due.picture(x);
        int one = x.years(30);
        DUE.is("Promise 26: some couples", one > 0 ? 1 : 0, 1);
        long then = x.seed(seed);
        DUE.same("Promise 26: nothing but the seed", before, Due.picture(x));
        DUE.is("Promise 26: likewise", x.years(30), one);
        DUE.is("Promise 26: likewise", x.seed(then), then);
        before = Due.picture(x);
        DUE.is("Promise 26: 0", x.years(0), HalfTruths.OUTSIDE);
        DUE.is("Promise 26: 31", x.years(31), HalfTruths.OUTSIDE);
        DUE.is("Promise 26: -1", x.years(-1), HalfTruths.OUTSIDE);
        DUE.same("Promise 26: refused", before, Due.picture(x));
        HalfTruths nobody = new HalfTruths();
        DUE.is("Promise 26: nobody", nobody.years(30), 0);
        DUE.is("Promise 26: the seed goes on", nobody.seed(0) != 0 ? 1 : 0, 1);
    }

    /** A seed from which the next step's upper 31 bits are 30 times that and the chance. */
    private static long seedFor(long thirties, int chance) {
        long next = (30L * thirties + chance) << 33 | 0x1ffffffffL;
        // The times number's opposite, 64 bits wrapping, by Newton's steps.
        long times = 6364136223846793005L;
        long back = times;
        for (int k = 0; k < 6; k++) {
            back *= 2 - times * back;
        }
        return (next - 1442695040888963407L) * back;
    }

    private static void year(String text, int chance, int want) {
        HalfTruths x = Due.court(text);
        x.seed(seedFor(12345, chance));
        DUE.is("Promise 26: " + text + " by " + chance, x.years(1), want);
        // These upper bits are below 0 if they are taken with their sign.
        x.seed(seedFor(50000000, chance));
        DUE.is("Promise 26: " + text + " by high " + chance, x.years(1), want);
        DUE.is("Promise 26: the seed", x.seed(0) >>> 33, 30L * 50000000 + chance);
    }

    private static void yearsByHand() {
        String text = "OP02P10P02M45M67S11S20";
        year(text, 0, 1);
        year(text, 1, 1);
        year(text, 2, 0);
        year(text, 4, 1);
        year(text, 5, 0);
        year(text, 8, 0);
        year(text, 9, 1);
        year(text, 12, 0);
        year(text, 23, 0);
        String both = "OP00P10P03M45S00S10";
        year(both, 0, 1);
        year(both, 24, 0);
        year(both, 25, 0);
        year(both, 26, 1);
        year(both, 27, 1);
        year(both, 29, 1);
        String six = "OP03P03P03P03P00P10M45S40";
        year(six, 20, 1);
        year(six, 16, 0);
        year(six + "S50", 28, 0);
        year(six + "S50", 29, 0);
        year(six + "S50", 24, 1);
    }
}
