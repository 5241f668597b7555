/** Promises 27 to 29: SLOTS, what is counted. */
public final class SlotsTest {
    private static final Due DUE = new Due();

    public static void main(String[] args) {
        keeping();
        refused();
        counting();
        DUE.end();
    }

    private static void keeping() {
        HalfTruths x = Due.court("OP00P11P02M45M67S00S10S20");
        x.swear(2, 1, 0);
        x.drop(0);
        DUE.is("Promise 27: one is known", x.keep(0), 1);
        DUE.is("Promise 27: no act", x.count(7), 2);
        x.deny(0);
        x.drop(2);
        x.show(1, 1);
        DUE.is("Promise 27: none is known", x.keep(1), 0);
        x.drop(0);
        x.drop(1);
        x.hear(0, 0, 1);
        x.seed(9);
        x.write('M');
        DUE.is("Promise 28: as it was kept", x.again(0), 1);
        DUE.is("Promise 28: known", x.matter(0, 2), 44);
        DUE.is("Promise 28: eye", x.person(0, 0), 1);
        DUE.is("Promise 28: kind", x.person(2, 1), 2);
        DUE.is("Promise 28: saw", x.person(1, 2), 1);
        DUE.is("Promise 28: fines", x.count(6), 1);
        DUE.is("Promise 28: row", x.count(7), 0);
        DUE.is("Promise 28: row", x.undo(), HalfTruths.STATE);
        DUE.is("Promise 28: heard stays", x.count(8), 1);
        DUE.is("Promise 28: seed stays", x.seed(0), 9);
        DUE.is("Promise 28: text stays", x.count(0), 26);
        x.deny(0);
        x.drop(0);
        DUE.is("Promise 28: not changed by going on", x.again(0), 1);
        DUE.is("Promise 28: fines", x.person(0, 3), 1);
        DUE.is("Promise 28: the other slot", x.again(1), 0);
        DUE.is("Promise 28: the other slot's kind", x.person(2, 1), 0);
        DUE.is("Promise 28: the other slot's sight", x.person(1, 2), 3);
        DUE.is("Promise 28: the other slot's fines", x.count(6), 2);
        DUE.is("Promise 27: over the other", x.keep(0), 0);
        DUE.is("Promise 28: over the other", x.again(0), 0);
    }

    private static void refused() {
        HalfTruths x = Due.court("OP00P10M45S00S10");
        x.drop(0);
        String before = Due.picture(x);
        DUE.is("Promise 27: UNKNOWN", x.keep(2), HalfTruths.UNKNOWN);
        DUE.is("Promise 27: UNKNOWN", x.keep(-1), HalfTruths.UNKNOWN);
        DUE.is("Promise 28: UNKNOWN", x.again(2), HalfTruths.UNKNOWN);
        DUE.is("Promise 28: UNKNOWN", x.again(-1), HalfTruths.UNKNOWN);
        DUE.is("Promise 28: STATE", x.again(0), HalfTruths.STATE);
        DUE.is("Promise 28: STATE", x.again(1), HalfTruths.STATE);
        DUE.is("Promise 27: kept", x.keep(1), 0);
        DUE.is("Promise 28: STATE, the other", x.again(0), HalfTruths.STATE);
        DUE.same("Promise 28: refused", before, Due.picture(x));
        HalfTruths z = Due.court("OP00P10M45S00S10");
        z.keep(0);
        DUE.is("Promise 28: STATE, the second", z.again(1), HalfTruths.STATE);
        DUE.is("Promise 28: the first", z.again(0), 0);
        HalfTruths y = new HalfTruths();
        DUE.is("Promise 27: nobody", y.keep(1), 0);
        DUE.is("Promise 28: nobody", y.again(1), 0);
        DUE.is("Promise 5: kept is gone", Due.anew(y, "OP00"), 10);
        DUE.is("Promise 28: gone", y.again(1), HalfTruths.STATE);
    }

    private static void counting() {
        HalfTruths x = Due.court("OP00P11P02M45M67M89S00S10S20S02S22");
        x.hear(2, 1, 3);
        x.swear(0, 1, 0);
        x.swear(0, 2, 2);
        x.drop(1);
        x.drop(1);
        x.write('S');
        int[] due = {35, 3, 3, 5, 5, 4, 2, 4, 1};
        for (int what = 0; what < 9; what++) {
            DUE.is("Promise 29: count " + what, x.count(what), due[what]);
        }
        x.drop(0);
        DUE.is("Promise 29: can be known", x.count(3), 5);
        x.drop(2);
        DUE.is("Promise 29: can be known", x.count(3), 5);
        x.drop(2);
        DUE.is("Promise 29: can't be known", x.count(3), 0);
        DUE.is("Promise 29: known still", x.count(4), 5);
        HalfTruths all = Due.court("OP00P10M00M11M22M33S00S10S01S11S02S12S03S13");
        for (int m = 0; m < 4; m++) {
            all.swear(0, 1, m);
            DUE.is("Promise 29: known as they are", all.count(5), (2 << m) - 1);
        }
        DUE.is("Promise 29: OUTSIDE", x.count(9), HalfTruths.OUTSIDE);
        DUE.is("Promise 29: OUTSIDE", x.count(-1), HalfTruths.OUTSIDE);
        DUE.is("Promise 29: OUTSIDE", x.count(Integer.MIN_VALUE), HalfTruths.OUTSIDE);
    }
}
