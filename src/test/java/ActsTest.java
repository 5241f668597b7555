/** Promises 9 to 13: what is SHOWN, SWORN, DENIED, DROPPED, undone. */
public final class ActsTest {
    private static final Due DUE = new Due();

    public static void main(String[] args) {
        showing();
        swearing();
        swearingRefused();
        denying();
        dropping();
        undoing();
        undoingAll();
        undoingOneSight();
        rowOfFourteen();
        lastOfFifteen();
        DUE.end();
    }

    private static void showing() {
        HalfTruths x = Due.court("OP00P11P03M45M00S00");
        DUE.is("Promise 9: second one", x.show(1, 0), 2);
        DUE.is("Promise 9: a saint counts", x.show(2, 0), 3);
        DUE.is("Promise 9: another matter", x.show(2, 1), 1);
        DUE.is("Promise 9: it saw", x.person(2, 2), 3);
        DUE.is("Promise 9: row", x.count(7), 3);
        String before = Due.picture(x);
        DUE.is("Promise 9: STATE by the text", x.show(0, 0), HalfTruths.STATE);
        DUE.is("Promise 9: STATE by an act", x.show(1, 0), HalfTruths.STATE);
        DUE.is("Promise 9: UNKNOWN person", x.show(3, 0), HalfTruths.UNKNOWN);
        DUE.is("Promise 9: UNKNOWN person", x.show(-1, 0), HalfTruths.UNKNOWN);
        DUE.is("Promise 9: UNKNOWN matter", x.show(0, 2), HalfTruths.UNKNOWN);
        DUE.is("Promise 9: UNKNOWN matter", x.show(0, -1), HalfTruths.UNKNOWN);
        DUE.same("Promise 9: refused", before, Due.picture(x));
    }

    private static void swearing() {
        HalfTruths x = Due.court("OP00P11P02P12M45M18S00S10S20S21S31");
        DUE.is("Promise 10: a plain one and a liar", x.swear(0, 1, 0), 44);
        DUE.is("Promise 10: known", x.matter(0, 2), 44);
        DUE.is("Promise 10: row", x.count(7), 1);
        DUE.is("Promise 10: bits", x.count(4), 1);
        DUE.is("Promise 10: not as it is", x.count(5), 0);
        DUE.is("Promise 10: two children", x.swear(3, 2, 1), 18);
        DUE.is("Promise 10: as it is", x.count(5), 2);
        x.deny(0);
        DUE.is("Promise 10: again, by a child", x.swear(0, 2, 0), 45);
        HalfTruths y = Due.court("OP01P11M00S00S10");
        DUE.is("Promise 10: two liars", y.swear(0, 1, 0), 99);
        HalfTruths z = Due.court("OP00P10M00S00S10");
        DUE.is("Promise 10: known as 0 is known", z.swear(0, 1, 0), 0);
        DUE.is("Promise 10: known as 0, bits", z.count(5), 1);
        DUE.is("Promise 10: known as 0, STATE", z.swear(0, 1, 0), HalfTruths.STATE);
    }

    private static void swearingRefused() {
        HalfTruths x = Due.court("OP00P10P02P13M45M18S00S10S20S30S01S21");
        String before = Due.picture(x);
        DUE.is("Promise 10: the wrong way", x.swear(1, 0, 0), HalfTruths.STATE);
        DUE.is("Promise 10: not two", x.swear(2, 2, 0), HalfTruths.STATE);
        DUE.is("Promise 10: a saint", x.swear(0, 3, 0), HalfTruths.STATE);
        DUE.is("Promise 10: did not see it", x.swear(0, 1, 1), HalfTruths.STATE);
        DUE.is("Promise 10: UNKNOWN i", x.swear(4, 1, 0), HalfTruths.UNKNOWN);
        DUE.is("Promise 10: UNKNOWN o", x.swear(0, 4, 0), HalfTruths.UNKNOWN);
        DUE.is("Promise 10: UNKNOWN matter", x.swear(0, 1, 2), HalfTruths.UNKNOWN);
        DUE.is("Promise 10: UNKNOWN ones below", x.swear(-1, 1, 0), HalfTruths.UNKNOWN);
        DUE.is("Promise 10: UNKNOWN ones below", x.swear(0, -1, 0), HalfTruths.UNKNOWN);
        DUE.is("Promise 10: UNKNOWN ones below", x.swear(0, 0, -1), HalfTruths.UNKNOWN);
        DUE.same("Promise 10: refused", before, Due.picture(x));
        x.swear(0, 1, 0);
        before = Due.picture(x);
        DUE.is("Promise 10: known", x.swear(2, 1, 0), HalfTruths.STATE);
        DUE.is("Promise 10: UNKNOWN first", x.swear(2, 9, 0), HalfTruths.UNKNOWN);
        DUE.same("Promise 10: refused", before, Due.picture(x));
    }

    private static void denying() {
        HalfTruths x = Due.court("OP00P10M45M18S00S10");
        String before = Due.picture(x);
        DUE.is("Promise 11: not known", x.deny(0), HalfTruths.STATE);
        DUE.is("Promise 11: UNKNOWN", x.deny(2), HalfTruths.UNKNOWN);
        DUE.is("Promise 11: UNKNOWN", x.deny(-1), HalfTruths.UNKNOWN);
        DUE.same("Promise 11: refused", before, Due.picture(x));
        x.swear(0, 1, 0);
        DUE.is("Promise 11: as it was", x.deny(0), 45);
        DUE.is("Promise 11: no more", x.matter(0, 2), HalfTruths.NONE);
        DUE.is("Promise 11: row", x.count(7), 2);
        DUE.is("Promise 11: once", x.deny(0), HalfTruths.STATE);
        DUE.is("Promise 11: sworn anew", x.swear(0, 1, 0), 45);
    }

    private static void dropping() {
        HalfTruths x = Due.court("OP00P11P02P12P03");
        DUE.is("Promise 12: plain", x.drop(0), 1);
        DUE.is("Promise 12: plain, back", x.drop(0), 0);
        DUE.is("Promise 12: liar", x.drop(1), 0);
        DUE.is("Promise 12: liar still", x.person(1, 1), 1);
        DUE.is("Promise 12: child, left", x.drop(2), 0);
        DUE.is("Promise 12: child is plain", x.person(2, 1), 0);
        DUE.is("Promise 12: then the other eye", x.drop(2), 1);
        DUE.is("Promise 12: child, right", x.drop(3), 1);
        DUE.is("Promise 12: fined", x.person(2, 3), 2);
        DUE.is("Promise 12: fined all", x.count(6), 6);
        DUE.is("Promise 12: row", x.count(7), 6);
        String before = Due.picture(x);
        DUE.is("Promise 12: saint", x.drop(4), HalfTruths.STATE);
        DUE.is("Promise 12: UNKNOWN", x.drop(5), HalfTruths.UNKNOWN);
        DUE.is("Promise 12: UNKNOWN", x.drop(-1), HalfTruths.UNKNOWN);
        DUE.same("Promise 12: refused", before, Due.picture(x));
    }

    private static void undoing() {
        HalfTruths x = Due.court("OP00P11P02M45S00S10");
        DUE.is("Promise 13: none", x.undo(), HalfTruths.STATE);
        String begun = Due.shortPicture(x);
        x.show(2, 0);
        String shown = Due.shortPicture(x);
        x.swear(2, 1, 0);
        String sworn = Due.shortPicture(x);
        x.deny(0);
        String denied = Due.shortPicture(x);
        x.drop(2);
        String child = Due.shortPicture(x);
        x.drop(1);
        DUE.is("Promise 13: a liar's drop", x.undo(), 4);
        DUE.same("Promise 13: a liar's drop", child, Due.shortPicture(x));
        DUE.is("Promise 13: a child's drop", x.undo(), 3);
        DUE.same("Promise 13: a child's drop", denied, Due.shortPicture(x));
        DUE.is("Promise 13: a denial", x.undo(), 2);
        DUE.same("Promise 13: a denial", sworn, Due.shortPicture(x));
        DUE.is("Promise 13: an oath", x.undo(), 1);
        DUE.same("Promise 13: an oath", shown, Due.shortPicture(x));
        DUE.is("Promise 13: a sight", x.undo(), 0);
        DUE.same("Promise 13: a sight", begun, Due.shortPicture(x));
        DUE.is("Promise 13: none", x.undo(), HalfTruths.STATE);
    }

    private static void undoingOneSight() {
        HalfTruths x = Due.court("OP02P02P02P02P02P02M45M67S00S20S30S40S50S51");
        x.show(1, 0);
        DUE.is("Promise 9: all saw it", x.matter(0, 3), 63);
        x.undo();
        DUE.is("Promise 13: just one did not", x.matter(0, 3), 61);
        DUE.is("Promise 13: of just that", x.matter(1, 3), 32);
    }

    private static void undoingAll() {
        HalfTruths x = Due.court("OP00P10M45S00S10");
        x.seed(3);
        x.hear(0, 0, 4);
        x.drop(0);
        x.years(2);
        x.hear(0, 0, 5);
        x.undo();
        DUE.is("Promise 13: nothing else is", x.undo(), HalfTruths.STATE);
        DUE.is("Promise 13: eye is back", x.person(0, 0), 0);
        DUE.is("Promise 13: heard is no act", x.count(8), 2);
        DUE.is("Promise 13: fine is back", x.count(6), 0);
    }

    /** The fifteenth act and the one ahead of it are of two kinds. */
    private static void lastOfFifteen() {
        HalfTruths x = Due.court("OP00P10P00M45M67S00S10S20");
        for (int k = 0; k < 12; k++) {
            x.drop(2);
        }
        x.swear(0, 1, 0);
        x.show(0, 1);
        x.show(1, 1);
        x.show(2, 1);
        DUE.is("Promise 13: the last one", x.undo(), 13);
        DUE.is("Promise 13: it did not see it", x.person(2, 2), 1);
        DUE.is("Promise 13: others saw it", x.person(0, 2), 3);
        DUE.is("Promise 13: others saw it", x.person(1, 2), 3);
        DUE.is("Promise 13: the one ahead", x.undo(), 12);
        DUE.is("Promise 13: it did not see it", x.person(1, 2), 1);
        x.show(2, 1);
        x.undo();
        x.undo();
        DUE.is("Promise 13: known", x.matter(0, 2), 45);
        DUE.is("Promise 13: ten are left", x.undo(), 10);
        DUE.is("Promise 13: not known", x.matter(0, 2), HalfTruths.NONE);
    }

    private static void rowOfFourteen() {
        HalfTruths x = Due.court("OP00P10M45S00");
        x.show(1, 0);
        x.swear(0, 1, 0);
        for (int k = 0; k < 13; k++) {
            DUE.is("Promise 12: eye", x.drop(1), k % 2);
            DUE.is("Promise 29: acts", x.count(7), Math.min(14, k + 3));
        }
        for (int left = 13; left >= 0; left--) {
            DUE.is("Promise 13: left", x.undo(), left);
        }
        DUE.is("Promise 13: the first one is forgotten", x.undo(), HalfTruths.STATE);
        DUE.is("Promise 13: it stays shown", x.person(1, 2), 1);
        DUE.is("Promise 13: the oath is undone", x.matter(0, 2), HalfTruths.NONE);
        DUE.is("Promise 13: fines", x.count(6), 0);
        for (int k = 0; k < 20; k++) {
            x.drop(0);
        }
        for (int k = 0; k < 14; k++) {
            x.undo();
        }
        DUE.is("Promise 13: six stay", x.person(0, 3), 6);
    }
}
