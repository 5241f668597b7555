import java.math.BigInteger;

/** Promises 19 to 29, sentence by sentence: fullest and emptiest, fractions, wraps, slots. */
public final class EdgesChancesTest {
    private static final Due DUE = new Due();
    private static final String CHILDREN = "OP02P12P02P12P02P12M45S00S10S20S30S40S50";
    private static final String ALL_SEEN = "OP00P10M00M11M22M33S00S10S01S11S02S12S03S13";
    private static final long TIMES = 6364136223846793005L;
    private static final long AND = 1442695040888963407L;

    public static void main(String[] args) throws Exception {
        howManyAreHeard();
        hearRefused();
        howManyWere();
        nothingHeard();
        eachSaidAlone();
        liesAtMost();
        neitherThatNorLess();
        valuesRefused();
        mattersNotThere();
        sharesOfNothing();
        sharesInLeastTerms();
        shareRefused();
        restsOfCouples();
        restsOfNone();
        restsRefused();
        nobodyComes();
        allCome();
        comesInLeastTerms();
        comeRefused();
        seedWas();
        seedWraps();
        upperBits();
        howManyYears();
        yearsGoOn();
        yearsChangeNothing();
        keptSlots();
        howManyKnownAreKept();
        keepRefused();
        goneOnFrom();
        againRefused();
        countsAtTheirMost();
        countRefused();
        DUE.quoted(19, 29, args);
        DUE.end();
    }

    // ---- promises 19, 20

    private static void howManyAreHeard() {
        DUE.sentence(19, "HEARD: how many there are.");
        HalfTruths x = Due.court("OM00M11M22M33");
        int[][] said = {{0, 0, 0}, {3, 1, 9}, {0, 1, 9}, {3, 0, 0}, {3, 1, 9}, {3, 1, 9}};
        for (int k = 0; k < 6; k++) {
            DUE.is("said " + (k + 1), x.hear(said[k][0], said[k][1], said[k][2]), k + 1);
            DUE.is("counted", x.count(8), k + 1);
        }
        DUE.sentence(19, "FULL: 6.");
        DUE.is("seventh", x.hear(0, 0, 0), HalfTruths.FULL);
        DUE.is("seventh, of a matter not heard of", x.hear(1, 1, 1), HalfTruths.FULL);
        DUE.is("six there are", x.count(8), 6);
        DUE.is("of it nothing", x.values(1, 1, 0), 1023);
        DUE.is("the first is not forgotten", x.values(0, 0, 0), 1);
        x.unhear();
        DUE.is("then one can", x.hear(1, 1, 1), 1);
    }

    private static void hearRefused() {
        DUE.sentence(19, "UNKNOWN; OUTSIDE: half, v; FULL: 6.");
        HalfTruths x = Due.court("OM00M11M22M33");
        for (int full = 0; full <= 1; full++) {
            DUE.is("fifth matter", x.hear(4, 0, 0), HalfTruths.UNKNOWN);
            DUE.is("matter below", x.hear(-1, 0, 0), HalfTruths.UNKNOWN);
            DUE.is("matter ahead of half", x.hear(4, 2, 0), HalfTruths.UNKNOWN);
            DUE.is("matter ahead of v", x.hear(4, 0, 10), HalfTruths.UNKNOWN);
            DUE.is("half too low", x.hear(3, -1, 0), HalfTruths.OUTSIDE);
            DUE.is("half too high", x.hear(3, 2, 0), HalfTruths.OUTSIDE);
            DUE.is("v too low", x.hear(3, 0, -1), HalfTruths.OUTSIDE);
            DUE.is("v too high", x.hear(3, 1, 10), HalfTruths.OUTSIDE);
            DUE.is("nothing of it was heard", x.count(8), 6 * full);
            for (int k = 0; k < 6; k++) {
                x.hear(0, 0, 0);
            }
        }
    }

    private static void howManyWere() {
        DUE.sentence(20, "Nothing is HEARD: how much there was.");
        for (int many = 0; many <= 7; many++) {
            HalfTruths x = Due.court("OM00M11");
            for (int k = 0; k < many; k++) {
                x.hear(k % 2, 0, 5);
            }
            DUE.is("of " + many, x.unhear(), Math.min(many, 6));
            DUE.is("then nothing", x.unhear(), 0);
            DUE.is("none counted", x.count(8), 0);
            DUE.is("of the one matter nothing", x.values(0, 0, 0), 1023);
            DUE.is("of the other nothing", x.values(1, 0, 0), 1023);
            DUE.is("it can be anew", x.hear(1, 0, 6), 1);
            DUE.is("the new one alone", x.values(1, 0, 0), 1 << 6);
        }
        DUE.is("of a new object", new HalfTruths().unhear(), 0);
    }

    // ---- promise 21

    private static void nothingHeard() {
        DUE.sentence(21, "what it may be (bits 0 to 9)");
        HalfTruths x = Due.court("OM00M11M22M33");
        for (int n = 0; n <= 6; n++) {
            DUE.is("left, " + n + " lies", x.values(0, 0, n), 1023);
            DUE.is("right, " + n + " lies", x.values(3, 1, n), 1023);
        }
        x.hear(3, 0, 4);
        DUE.is("the other half", x.values(3, 1, 0), 1023);
        DUE.is("another matter", x.values(2, 0, 0), 1023);
        DUE.is("just that", x.values(3, 0, 0), 1 << 4);
    }

    private static void eachSaidAlone() {
        DUE.sentence(21, "so that all that is HEARD of it is that, or 9 less that");
        for (int v = 0; v <= 9; v++) {
            HalfTruths x = Due.court("OM00");
            x.hear(0, 1, v);
            DUE.is(v + " with none", x.values(0, 1, 0), 1 << v);
            for (int n = 1; n <= 6; n++) {
                DUE.is(v + " with " + n, x.values(0, 1, n), 1 << v | 1 << 9 - v);
            }
            DUE.is("of the left half nothing", x.values(0, 0, 0), 1023);
        }
    }

    private static void liesAtMost() {
        DUE.sentence(21, "the latter n times at most");
        for (int threes = 0; threes <= 6; threes++) {
            HalfTruths x = Due.court("OM00");
            for (int k = 0; k < 6; k++) {
                x.hear(0, 0, k < threes ? 3 : 6);
            }
            for (int n = 0; n <= 6; n++) {
                int due = (6 - threes <= n ? 1 << 3 : 0) | (threes <= n ? 1 << 6 : 0);
                DUE.is(threes + " of six, " + n + " lies", x.values(0, 0, n), due);
            }
        }
    }

    private static void neitherThatNorLess() {
        DUE.sentence(21, "all that is HEARD of it is that, or 9 less that");
        HalfTruths x = Due.court("OM00");
        x.hear(0, 0, 0);
        x.hear(0, 0, 9);
        DUE.is("0 and 9, no lies", x.values(0, 0, 0), 0);
        DUE.is("0 and 9, a lie", x.values(0, 0, 1), 1 | 512);
        x.hear(0, 0, 8);
        for (int n = 0; n <= 6; n++) {
            DUE.is("0, 9 and 8 can not be", x.values(0, 0, n), 0);
        }
        HalfTruths y = Due.court("OM00");
        y.hear(0, 0, 4);
        y.hear(0, 0, 5);
        DUE.is("4 and 5, a lie", y.values(0, 0, 1), 16 | 32);
        y.hear(0, 0, 3);
        DUE.is("4, 5 and 3", y.values(0, 0, 6), 0);
    }

    private static void valuesRefused() {
        DUE.sentence(21, "UNKNOWN; OUTSIDE: half, n.");
        HalfTruths x = Due.court("OM00M11M22M33");
        DUE.is("the last matter, the most lies", x.values(3, 1, 6), 1023);
        DUE.is("fifth matter", x.values(4, 0, 0), HalfTruths.UNKNOWN);
        DUE.is("matter below", x.values(-1, 0, 0), HalfTruths.UNKNOWN);
        DUE.is("matter ahead of half", x.values(4, 2, 0), HalfTruths.UNKNOWN);
        DUE.is("matter ahead of n", x.values(4, 0, 7), HalfTruths.UNKNOWN);
        DUE.is("half too low", x.values(3, -1, 0), HalfTruths.OUTSIDE);
        DUE.is("half too high", x.values(3, 2, 0), HalfTruths.OUTSIDE);
        DUE.is("n too low", x.values(3, 0, -1), HalfTruths.OUTSIDE);
        DUE.is("n too high", x.values(3, 0, 7), HalfTruths.OUTSIDE);
    }

    private static void mattersNotThere() {
        DUE.sentence(21, "(of MATTERS that there are not any more nothing is looked at)");
        HalfTruths x = Due.court("OM00M11M22M33");
        x.hear(3, 0, 4);
        x.hear(1, 0, 5);
        DUE.is("made anew", Due.anew(x, "OM00M11"), 2);
        DUE.is("not there", x.values(3, 0, 0), HalfTruths.UNKNOWN);
        DUE.is("there still", x.values(1, 0, 0), 1 << 5);
        DUE.is("of the first one nothing", x.values(0, 0, 0), 1023);
        DUE.is("nothing is there", Due.anew(x, "O"), 0);
        DUE.is("not there", x.values(0, 0, 0), HalfTruths.UNKNOWN);
        DUE.is("nor is it heard of", x.hear(0, 0, 0), HalfTruths.UNKNOWN);
    }

    // ---- promise 22

    private static void share(HalfTruths x, int person, int above, int below) {
        DUE.is("person " + person + " above", x.share(person, true), above);
        DUE.is("person " + person + " below", x.share(person, false), below);
    }

    private static void sharesOfNothing() {
        DUE.sentence(22, "FRACTIONS are told above (upper = true), below (1 and more), in least terms");
        share(Due.court("OP00"), 0, 0, 1);
        share(Due.court("OP02M45S00"), 0, 0, 1);
        HalfTruths six = Due.court("OP00P00P00P00P00P00M45S00S10S20S30S40S50");
        HalfTruths saint = Due.court("OP00P10P03M45S00S10S20");
        for (int p = 0; p < 6; p++) {
            share(six, p, 0, 1);
        }
        share(saint, 2, 0, 1);
    }

    private static void sharesInLeastTerms() {
        DUE.sentence(22, "SHARE of a PERSON: if PEOPLE come one by one, in each order as likely");
        share(Due.court("OP00P10M45S00S10"), 1, 1, 2);
        share(Due.court("OP00P10M45M67S00S10S01S11"), 0, 1, 1);
        share(Due.court(ALL_SEEN), 0, 2, 1);
        // Of one left one and k right ones the left one has k of k + 1, each right one 1 of k (k + 1).
        HalfTruths five = Due.court("OP00P10P10P10P10P10M45S00S10S20S30S40S50");
        share(five, 0, 5, 6);
        share(five, 5, 1, 30);
        HalfTruths four = Due.court("OP00P10P10P10P10M45S00S10S20S30S40");
        share(four, 0, 4, 5);
        share(four, 4, 1, 20);
        HalfTruths children = Due.court(CHILDREN);
        for (int p = 0; p < 6; p++) {
            share(children, p, 1, 6);
        }
        // Two left ones and two right ones are of like shares; the saint has none.
        HalfTruths twos = Due.court("OP00P00P10P10P03M45S00S10S20S30S40");
        share(twos, 0, 1, 4);
        share(twos, 3, 1, 4);
        share(twos, 4, 0, 1);
        // Matter 0 by 0 and 1, matter 1 by 0 and either of 1 and 2: 1/2 + 2/3, 1/2 + 1/6, 1/6.
        HalfTruths sum = Due.court("OP00P10P10M45M67S00S10S01S11S21");
        share(sum, 0, 7, 6);
        share(sum, 1, 2, 3);
        share(sum, 2, 1, 6);
    }

    private static void shareRefused() {
        DUE.sentence(22, "refusals of them are told likewise");
        HalfTruths x = Due.court(CHILDREN);
        share(x, 6, HalfTruths.UNKNOWN, HalfTruths.UNKNOWN);
        share(x, -1, HalfTruths.UNKNOWN, HalfTruths.UNKNOWN);
        share(Due.court("OM45"), 0, HalfTruths.UNKNOWN, HalfTruths.UNKNOWN);
    }

    // ---- promise 23

    private static void rests(HalfTruths x, int one, int other, int matter, int many) {
        DUE.is(one + " and " + other + " how many", x.rests(one, other, matter, 0), many);
        DUE.is(one + " and " + other + " first", x.rests(one, other, matter, 1), 0);
    }

    private static void restsOfCouples() {
        DUE.sentence(23, "if both do, and are a COUPLE for it (either way), each has 3 (a LIAR 4)");
        HalfTruths x = Due.court("OP00P10P01P11P02P12M45S00S10S20S30S40S50");
        int[][] couples = {{0, 1}, {0, 3}, {2, 1}, {2, 3}, {0, 4}, {4, 5}, {3, 5}, {1, 4}};
        for (int[] two : couples) {
            rests(x, two[0], two[1], 0, 2);
            rests(x, two[1], two[0], 0, 2);
        }
        x.swear(0, 1, 0);
        rests(x, 0, 1, 0, 2);
        x.drop(1);
        rests(x, 0, 1, 0, 1);
    }

    private static void restsOfNone() {
        DUE.sentence(23, "if both do, and are none, each loses 2; one that does alone loses 1");
        HalfTruths x = Due.court("OP00P00P11P11P03P12M45M67S00S10S20S30S40S51");
        int[][] none = {{0, 1}, {2, 3}, {0, 4}, {4, 2}, {0, 5}, {5, 2}};
        for (int[] two : none) {
            rests(x, two[0], two[1], 0, 1);
            rests(x, two[1], two[0], 0, 1);
        }
        rests(x, 0, 2, 1, 1);
    }

    private static void restsRefused() {
        DUE.sentence(23, "UNKNOWN: all three; OUTSIDE: both PEOPLE are one, what.");
        HalfTruths x = Due.court(ALL_SEEN);
        rests(x, 1, 0, 3, 2);
        int unknown = HalfTruths.UNKNOWN;
        for (int what = -1; what <= 2; what++) {
            DUE.is("one", x.rests(2, 0, 0, what), unknown);
            DUE.is("one below", x.rests(-1, 0, 0, what), unknown);
            DUE.is("other", x.rests(0, 2, 0, what), unknown);
            DUE.is("other below", x.rests(0, -1, 0, what), unknown);
            DUE.is("matter", x.rests(0, 1, 4, what), unknown);
            DUE.is("matter below", x.rests(0, 1, -1, what), unknown);
            DUE.is("both are one that is not", x.rests(2, 2, 0, what), unknown);
            DUE.is("both are one, of no matter", x.rests(0, 0, 4, what), unknown);
            DUE.is("both are one", x.rests(0, 0, 0, what), HalfTruths.OUTSIDE);
            DUE.is("both are the last one", x.rests(1, 1, 3, what), HalfTruths.OUTSIDE);
        }
        DUE.is("what too low", x.rests(0, 1, 0, -1), HalfTruths.OUTSIDE);
        DUE.is("what too high", x.rests(0, 1, 0, 2), HalfTruths.OUTSIDE);
    }

    // ---- promise 24

    private static void come(HalfTruths x, int matter, int tenths, int above, int below) {
        DUE.is("by " + tenths + " tenths, above", x.come(matter, tenths, true), above);
        DUE.is("by " + tenths + " tenths, below", x.come(matter, tenths, false), below);
    }

    private static void nobodyComes() {
        DUE.sentence(24, "COME: each PERSON comes by x tenths (0 to 10), by itself");
        come(Due.court(CHILDREN), 0, 0, 0, 1);
        come(Due.court(ALL_SEEN), 3, 0, 0, 1);
        String[] none = {"OM45", "OP02M45S00", "OP00P00M45S00S10", "OP03P13M45S00S10", "OP00P10M45M67S01S11"};
        for (String text : none) {
            HalfTruths x = Due.court(text);
            for (int tenths = 0; tenths <= 10; tenths++) {
                come(x, 0, tenths, 0, 1);
            }
        }
    }

    private static void allCome() {
        DUE.sentence(24, "COME: each PERSON comes by x tenths (0 to 10), by itself");
        come(Due.court(CHILDREN), 0, 10, 1, 1);
        come(Due.court(ALL_SEEN), 3, 10, 1, 1);
        come(Due.court("OP00P10P03P03P03P03M45S00S10"), 0, 10, 1, 1);
    }

    private static void comesInLeastTerms() {
        DUE.sentence(24, "in least terms");
        // Two that must come, by x tenths: x x of 100; four that do nothing change nothing.
        int[] above = {0, 1, 1, 9, 4, 1, 9, 49, 16, 81, 1};
        int[] below = {1, 100, 25, 100, 25, 4, 25, 100, 25, 100, 1};
        HalfTruths two = Due.court("OP00P10M45S00S10");
        HalfTruths six = Due.court("OP03P13P00P10P00P10M45S20S30");
        for (int tenths = 0; tenths <= 10; tenths++) {
            come(two, 0, tenths, above[tenths], below[tenths]);
            come(six, 0, tenths, above[tenths], below[tenths]);
        }
        HalfTruths children = Due.court(CHILDREN);
        // Of six neither none nor just one: 1 - 1/64 - 6/64.
        come(children, 0, 5, 57, 64);
        // 1 - 0.1^6 - 6 * 0.9 * 0.1^5, of a million.
        come(children, 0, 9, 999945 / 5, 1000000 / 5);
        // Three and three by 3 tenths: (1 - 0.343)(1 - 0.343).
        HalfTruths threes = Due.court("OP00P10P00P10P00P10M45S00S10S20S30S40S50");
        come(threes, 0, 7, 973 * 973, 1000000);
        come(threes, 0, 5, 49, 64);
    }

    private static void comeRefused() {
        DUE.sentence(24, "UNKNOWN; OUTSIDE: x.");
        HalfTruths x = Due.court(ALL_SEEN);
        int unknown = HalfTruths.UNKNOWN;
        int outside = HalfTruths.OUTSIDE;
        come(x, 4, 0, unknown, unknown);
        come(x, -1, 10, unknown, unknown);
        come(x, 4, 11, unknown, unknown);
        come(x, -1, -1, unknown, unknown);
        come(x, 3, -1, outside, outside);
        come(x, 3, 11, outside, outside);
        come(Due.court("OP00"), 0, 5, unknown, unknown);
    }

    // ---- promises 25, 26

    private static void seedWas() {
        DUE.sentence(25, "THE SEED is v: what it was.");
        long[] seeds = {0, 1, -1, Integer.MAX_VALUE, Integer.MIN_VALUE, 1L << 32, Long.MAX_VALUE, Long.MIN_VALUE, 7};
        HalfTruths x = new HalfTruths();
        long was = 0;
        for (long seed : seeds) {
            DUE.is("ahead of " + seed, x.seed(seed), was);
            was = seed;
        }
        Due.anew(x, "OP00");
        x.keep(0);
        x.again(0);
        DUE.is("behind a court and a slot", x.seed(0), 7);
    }

    /** What one step makes of a seed, without any wrapping by the machine. */
    private static BigInteger step(BigInteger seed) {
        BigInteger all = BigInteger.ONE.shiftLeft(64);
        return seed.multiply(BigInteger.valueOf(TIMES)).add(BigInteger.valueOf(AND)).mod(all);
    }

    private static void seedWraps() {
        DUE.sentence(26, "x (THE SEED, a long; 0 at first) becomes x times 6364136223846793005 and "
                + "1442695040888963407 (64 bits, wrapping)");
        long[] seeds = {0, 1, -1, 2, Long.MAX_VALUE, Long.MIN_VALUE, 1L << 32, -(1L << 32), 123456789123456789L};
        for (long seed : seeds) {
            for (int m = 1; m <= 30; m += 29) {
                HalfTruths x = new HalfTruths();
                x.seed(seed);
                x.years(m);
                BigInteger due = BigInteger.valueOf(seed);
                for (int k = 0; k < m; k++) {
                    due = step(due);
                }
                DUE.is(seed + " by " + m, x.seed(0), due.longValue());
            }
        }
    }

    private static void upperBits() {
        DUE.sentence(26, "its upper 31 bits by 30, what is left: 0 to 23: that by 4 (down) is a PERSON to which the "
                + "MATTER that is left by 4 is SHOWN, if it can be; 24 to 29: PERSON 0 to 5 drops its glass, if it can");
        boolean high = false;
        boolean[] seen = new boolean[30];
        for (int k = 0; k < 200; k++) {
            long seed = k * 0x9e3779b97f4a7c15L;
            BigInteger upper = step(BigInteger.valueOf(seed)).shiftRight(33);
            high |= upper.bitLength() == 31;
            int left = upper.mod(BigInteger.valueOf(30)).intValue();
            seen[left] = true;
            for (int all = 0; all < 24; all++) {
                int p = all / 4;
                int other = (p + 1) % 6;
                boolean apart = left != 24 + p && left != 24 + other;
                DUE.is("seed " + seed + " to " + all, yearOf(seed, p, all % 4, false), left == all ? 1 : 0);
                DUE.is("seed " + seed + " by " + all, yearOf(seed, p, all % 4, true), apart ? 1 : 0);
            }
        }
        DUE.is("with a highest bit of 1", high ? 1 : 0, 1);
        for (int left = 0; left < 30; left++) {
            DUE.is("what is left was " + left, seen[left] ? 1 : 0, 1);
        }
    }

    /** One year of a left one, that may have seen the matter, the next one, right, that did, and saints. */
    private static int yearOf(long seed, int leftOne, int matter, boolean saw) {
        int rightOne = (leftOne + 1) % 6;
        StringBuilder text = new StringBuilder("O");
        for (int p = 0; p < 6; p++) {
            text.append('P').append(p == rightOne ? 1 : 0).append(p == leftOne || p == rightOne ? 0 : 3);
        }
        text.append("M00M00M00M00S").append(rightOne).append(matter);
        if (saw) {
            text.append('S').append(leftOne).append(matter);
        }
        HalfTruths x = Due.court(text.toString());
        x.seed(seed);
        return x.years(1);
    }

    private static void howManyYears() {
        DUE.sentence(26, "YEARS. OUTSIDE: m.");
        int[] none = {0, 31, -1, 32, 100, Integer.MAX_VALUE, Integer.MIN_VALUE};
        for (int m : none) {
            HalfTruths x = Due.court(ALL_SEEN);
            x.seed(5);
            DUE.is(m + " years", x.years(m), HalfTruths.OUTSIDE);
            DUE.is("the seed stays", x.seed(0), 5);
        }
        for (int m = 1; m <= 30; m++) {
            DUE.is(m + " years of saints", Due.court("OP03P13M00S00S10").years(m), 0);
            DUE.is(m + " years of nobody", new HalfTruths().years(m), 0);
        }
    }

    private static void yearsGoOn() {
        DUE.sentence(26, "for how many MATTERS there is a COUPLE then, each time, together");
        // Six people of whom the saints can do nothing; by 24 and 25 one of the couple drops its glass.
        for (int seed = 0; seed < 90; seed++) {
            int m = 1 + seed % 30;
            HalfTruths x = Due.court("OP00P10P03P03P03P03M00M00M00M00S00S10S01S11");
            x.seed(seed);
            BigInteger state = BigInteger.valueOf(seed);
            boolean[][] saw = {{true, true, false, false}, {true, true, false, false}};
            int apart = 1;
            int due = 0;
            for (int year = 0; year < m; year++) {
                state = step(state);
                int left = state.shiftRight(33).mod(BigInteger.valueOf(30)).intValue();
                if (left < 8) {
                    saw[left / 4][left % 4] = true;
                }
                apart = left == 24 || left == 25 ? 1 - apart : apart;
                for (int matter = 0; matter < 4; matter++) {
                    due += saw[0][matter] && saw[1][matter] ? apart : 0;
                }
            }
            DUE.is(m + " years from " + seed, x.years(m), due);
        }
    }

    private static void yearsChangeNothing() {
        DUE.sentence(26, "(Nothing changes but THE SEED.)");
        String text = "OP02P10P00M45M67S00S10";
        for (int m = 1; m <= 30; m++) {
            HalfTruths x = Due.court(text);
            HalfTruths y = Due.court(text);
            x.keep(1);
            y.keep(1);
            x.drop(0);
            y.drop(0);
            int once = x.years(m);
            long then = x.seed(0);
            DUE.is("the same once more", x.years(m), once);
            DUE.is("by the same seeds", x.seed(0), then);
            DUE.same(m + " years", Due.whole(y), Due.whole(x));
        }
    }

    // ---- promises 27, 28

    private static void keptSlots() {
        DUE.sentence(27, "SLOTS 0 to 1 keep EYES, KINDS, who saw what, what is KNOWN, FINES");
        String text = "OP00P12P11M45M67S00S10S20";
        for (int slot = 0; slot <= 1; slot++) {
            HalfTruths x = Due.court(text);
            x.swear(0, 1, 0);
            x.drop(0);
            String kept = Due.shortPicture(x);
            DUE.is("slot " + slot, x.keep(slot), 1);
            DUE.is("the row stays", x.count(7), 2);
            x.keep(1 - slot);
            x.drop(0);
            x.drop(1);
            x.drop(2);
            x.show(2, 1);
            x.deny(0);
            DUE.is("gone on from slot " + slot, x.again(slot), 1);
            DUE.same("slot " + slot, kept, Due.shortPicture(x));
            x.drop(1);
            DUE.is("gone on twice", x.again(slot), 1);
            DUE.same("slot " + slot + " once more", kept, Due.shortPicture(x));
            x.deny(0);
            DUE.is("kept over what was kept", x.keep(slot), 0);
            x.swear(1, 2, 0);
            DUE.is("gone on from the later one", x.again(slot), 0);
            DUE.is("the other slot as it was", x.again(1 - slot), 1);
        }
    }

    private static void howManyKnownAreKept() {
        DUE.sentence(27, "They are kept: how many MATTERS are KNOWN.");
        DUE.is("nobody, nothing", new HalfTruths().keep(0), 0);
        HalfTruths x = Due.court(ALL_SEEN);
        for (int known = 0; known <= 4; known++) {
            DUE.is(known + " in the first", x.keep(0), known);
            DUE.is(known + " in the other", x.keep(1), known);
            DUE.is(known + " from the first", x.again(0), known);
            DUE.is(known + " from the other", x.again(1), known);
            x.swear(0, 1, 3 - known);
        }
        HalfTruths wrong = Due.court("OP01P10M45S00S10");
        wrong.swear(0, 1, 0);
        DUE.is("known not as it is", wrong.keep(0), 1);
    }

    private static void keepRefused() {
        DUE.sentence(27, "UNKNOWN.");
        int[] none = {-1, 2, 3, 32, -32, Integer.MIN_VALUE, Integer.MAX_VALUE};
        for (int slot : none) {
            HalfTruths x = Due.court("OP00");
            DUE.is("slot " + slot, x.keep(slot), HalfTruths.UNKNOWN);
            DUE.is("slot 0 has none", x.again(0), HalfTruths.STATE);
            DUE.is("slot 1 has none", x.again(1), HalfTruths.STATE);
        }
    }

    private static void goneOnFrom() {
        DUE.sentence(28, "(THE ROW of ACTS is empty when one goes on)");
        HalfTruths x = Due.court("OP00P10M45S00S10");
        x.drop(0);
        x.keep(0);
        DUE.is("the row stays when it is kept", x.count(7), 1);
        DUE.is("gone on", x.again(0), 0);
        DUE.is("no acts", x.count(7), 0);
        DUE.is("none to undo", x.undo(), HalfTruths.STATE);
        DUE.is("the eye stays", x.person(0, 0), 1);
        for (int k = 0; k < 20; k++) {
            x.drop(1);
        }
        DUE.is("a full row", x.count(7), 14);
        x.again(0);
        DUE.is("is empty", x.count(7), 0);
        x.drop(1);
        DUE.is("one act then", x.undo(), 0);
        DUE.is("fines as kept", x.count(6), 1);
    }

    private static void againRefused() {
        DUE.sentence(28, "UNKNOWN; STATE: none were kept.");
        HalfTruths x = Due.court("OP00");
        x.drop(0);
        int[] none = {-1, 2, 3, 32, -32, Integer.MIN_VALUE, Integer.MAX_VALUE};
        for (int slot : none) {
            DUE.is("slot " + slot, x.again(slot), HalfTruths.UNKNOWN);
        }
        DUE.is("slot 0", x.again(0), HalfTruths.STATE);
        DUE.is("slot 1", x.again(1), HalfTruths.STATE);
        DUE.is("the row stays", x.count(7), 1);
        x.keep(0);
        DUE.is("slot 1 has none", x.again(1), HalfTruths.STATE);
        x.keep(1);
        x.court();
        DUE.is("slot 0 of an earlier court", x.again(0), HalfTruths.STATE);
        DUE.is("slot 1 of an earlier court", x.again(1), HalfTruths.STATE);
        HalfTruths y = Due.court("OP00");
        y.keep(1);
        DUE.is("slot 0 has none", y.again(0), HalfTruths.STATE);
        Due.anew(y, "OP0");
        DUE.is("a fault takes nothing away", y.again(1), 0);
    }

    // ---- promise 29

    private static void countsAtTheirMost() {
        DUE.sentence(29, "0 letters of THE TEXT, 1 PEOPLE, 2 MATTERS, 3 MATTERS that CAN be known (bits), 4 MATTERS "
                + "that are KNOWN (bits), 5 that are KNOWN as they are (bits), 6 FINES of all, 7 ACTS in the row, 8 HEARD.");
        HalfTruths x = Due.court("OP00P10P02P12P01P11M00M11M22M33S00S10S01S11S20");
        for (int m = 2; m <= 3; m++) {
            x.show(0, m);
            x.show(1, m);
        }
        for (int k = 0; k < 7; k++) {
            x.hear(3, 1, 9);
        }
        for (int m = 0; m <= 3; m++) {
            x.swear(0, 1, m);
        }
        for (int k = 0; k < 200; k++) {
            x.drop(4 + k % 2);
        }
        x.write('O');
        x.write('O');
        x.write('O');
        int[] due = {48, 6, 4, 15, 15, 15, 200, 14, 6};
        for (int what = 0; what <= 8; what++) {
            DUE.is("most of " + what, x.count(what), due[what]);
        }
        x.drop(0);
        DUE.is("none but the child's can be now", x.count(3), 1);
        DUE.is("all are known still", x.count(4), 15);
        x.deny(0);
        x.deny(3);
        DUE.is("two are denied", x.count(4), 6);
        DUE.is("two are known as they are", x.count(5), 6);
    }

    private static void countRefused() {
        DUE.sentence(29, "8 HEARD. OUTSIDE.");
        int[] none = {-1, 9, 10, 32, 64, 256, Integer.MIN_VALUE, Integer.MAX_VALUE};
        HalfTruths x = Due.court(ALL_SEEN);
        for (int what : none) {
            DUE.is("count " + what, x.count(what), HalfTruths.OUTSIDE);
            DUE.is("count " + what + " of nobody", new HalfTruths().count(what), HalfTruths.OUTSIDE);
        }
    }
}
