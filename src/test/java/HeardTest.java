/** Promises 19 to 21: what is HEARD, VALUES. */
public final class HeardTest {
    private static final Due DUE = new Due();

    public static void main(String[] args) {
        hearing();
        hearingRefused();
        values();
        otherCourts();
        DUE.end();
    }

    private static void hearing() {
        HalfTruths x = Due.court("OM45M18");
        for (int k = 1; k <= 6; k++) {
            DUE.is("Promise 19: how many", x.hear(k % 2, k % 2, 9), k);
        }
        DUE.is("Promise 19: FULL", x.hear(0, 0, 0), HalfTruths.FULL);
        DUE.is("Promise 19: UNKNOWN first", x.hear(2, 0, 0), HalfTruths.UNKNOWN);
        DUE.is("Promise 19: OUTSIDE first", x.hear(0, 0, 10), HalfTruths.OUTSIDE);
        DUE.is("Promise 19: six", x.count(8), 6);
        DUE.is("Promise 20: so many", x.unhear(), 6);
        DUE.is("Promise 20: none", x.count(8), 0);
        DUE.is("Promise 20: none", x.unhear(), 0);
        DUE.is("Promise 20: nothing is left", x.values(0, 0, 0), 1023);
        DUE.is("Promise 20: anew", x.hear(0, 0, 0), 1);
    }

    private static void hearingRefused() {
        HalfTruths x = Due.court("OM45");
        String before = Due.picture(x);
        DUE.is("Promise 19: UNKNOWN", x.hear(1, 0, 0), HalfTruths.UNKNOWN);
        DUE.is("Promise 19: UNKNOWN", x.hear(-1, 2, 10), HalfTruths.UNKNOWN);
        DUE.is("Promise 19: OUTSIDE half", x.hear(0, 2, 0), HalfTruths.OUTSIDE);
        DUE.is("Promise 19: OUTSIDE half", x.hear(0, -1, 0), HalfTruths.OUTSIDE);
        DUE.is("Promise 19: OUTSIDE v", x.hear(0, 0, 10), HalfTruths.OUTSIDE);
        DUE.is("Promise 19: OUTSIDE v", x.hear(0, 0, -1), HalfTruths.OUTSIDE);
        DUE.same("Promise 19: refused", before, Due.picture(x));
    }

    private static void values() {
        HalfTruths x = Due.court("OM45M18");
        DUE.is("Promise 21: nothing heard", x.values(0, 0, 0), 1023);
        x.hear(0, 0, 3);
        DUE.is("Promise 21: no lies", x.values(0, 0, 0), 1 << 3);
        DUE.is("Promise 21: one lie", x.values(0, 0, 1), 1 << 3 | 1 << 6);
        DUE.is("Promise 21: the other half", x.values(0, 1, 0), 1023);
        DUE.is("Promise 21: the other matter", x.values(1, 0, 0), 1023);
        x.hear(0, 0, 6);
        DUE.is("Promise 21: they disagree", x.values(0, 0, 0), 0);
        DUE.is("Promise 21: one of them lies", x.values(0, 0, 1), 1 << 3 | 1 << 6);
        x.hear(0, 0, 6);
        DUE.is("Promise 21: two against one", x.values(0, 0, 1), 1 << 6);
        DUE.is("Promise 21: two against one, two lies", x.values(0, 0, 2), 1 << 3 | 1 << 6);
        x.hear(0, 0, 4);
        DUE.is("Promise 21: can't be", x.values(0, 0, 6), 0);
        x.hear(0, 1, 0);
        DUE.is("Promise 21: 0 or 9", x.values(0, 1, 6), 1 | 1 << 9);
        DUE.is("Promise 21: 0", x.values(0, 1, 0), 1);
        DUE.is("Promise 21: UNKNOWN", x.values(2, 0, 0), HalfTruths.UNKNOWN);
        DUE.is("Promise 21: UNKNOWN first", x.values(-1, 2, 7), HalfTruths.UNKNOWN);
        DUE.is("Promise 21: OUTSIDE half", x.values(0, 2, 0), HalfTruths.OUTSIDE);
        DUE.is("Promise 21: OUTSIDE half", x.values(0, -1, 0), HalfTruths.OUTSIDE);
        DUE.is("Promise 21: OUTSIDE n", x.values(0, 0, 7), HalfTruths.OUTSIDE);
        DUE.is("Promise 21: OUTSIDE n", x.values(0, 0, -1), HalfTruths.OUTSIDE);
        HalfTruths y = Due.court("OM45");
        for (int k = 0; k < 6; k++) {
            y.hear(0, 0, 1);
        }
        DUE.is("Promise 21: five lies", y.values(0, 0, 5), 1 << 1);
        DUE.is("Promise 21: six lies", y.values(0, 0, 6), 1 << 1 | 1 << 8);
    }

    private static void otherCourts() {
        HalfTruths x = Due.court("OM45M18");
        x.hear(1, 0, 3);
        Due.anew(x, "OM45");
        DUE.is("Promise 21: not there any more", x.values(1, 0, 0), HalfTruths.UNKNOWN);
        DUE.is("Promise 21: of the others nothing", x.values(0, 0, 0), 1023);
        DUE.is("Promise 19: heard stays", x.hear(0, 0, 8), 2);
        Due.anew(x, "OM00M00");
        DUE.is("Promise 21: there again", x.values(1, 0, 0), 1 << 3);
        DUE.is("Promise 20: both", x.unhear(), 2);
    }
}
