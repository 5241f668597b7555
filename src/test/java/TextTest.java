/** Promises 1 to 8: a new object, THE TEXT, THE COURT. */
public final class TextTest {
    private static final Due DUE = new Due();

    public static void main(String[] args) {
        newObject();
        writing();
        wiping();
        faults();
        faultsOfSightings();
        courts();
        courtForgets();
        courtIsNew();
        people();
        matters();
        sayings();
        DUE.end();
    }

    private static void newObject() {
        HalfTruths x = new HalfTruths();
        for (int what = 0; what <= 8; what++) {
            DUE.is("Promise 1: count " + what, x.count(what), 0);
        }
        DUE.is("Promise 1: fault", x.fault(), 0);
        DUE.is("Promise 1: person", x.person(0, 0), HalfTruths.UNKNOWN);
        DUE.is("Promise 1: matter", x.matter(0, 0), HalfTruths.UNKNOWN);
        DUE.is("Promise 1: undo", x.undo(), HalfTruths.STATE);
        DUE.is("Promise 1: again", x.again(0), HalfTruths.STATE);
        DUE.is("Promise 1: seed", x.seed(5), 0);
        HalfTruths other = new HalfTruths();
        DUE.is("Promise 1: two objects are two", other.seed(0), 0);
    }

    private static void writing() {
        HalfTruths x = new HalfTruths();
        DUE.is("Promise 2: too low", x.write(-1), HalfTruths.OUTSIDE);
        DUE.is("Promise 2: too high", x.write(256), HalfTruths.OUTSIDE);
        DUE.is("Promise 2: far off", x.write(Integer.MIN_VALUE), HalfTruths.OUTSIDE);
        DUE.is("Promise 2: refused changes nothing", x.count(0), 0);
        DUE.is("Promise 2: lowest", x.write(0), 1);
        DUE.is("Promise 2: highest", x.write(255), 2);
        for (int length = 3; length <= 48; length++) {
            DUE.is("Promise 2: length", x.write('O'), length);
        }
        DUE.is("Promise 2: full", x.write('O'), HalfTruths.FULL);
        DUE.is("Promise 2: OUTSIDE ahead of FULL", x.write(256), HalfTruths.OUTSIDE);
        DUE.is("Promise 2: still 48", x.count(0), 48);
    }

    private static void wiping() {
        HalfTruths x = Due.write(new HalfTruths(), "OP00");
        DUE.is("Promise 3: it was", x.wipe(), 4);
        DUE.is("Promise 3: empty", x.count(0), 0);
        DUE.is("Promise 3: again", x.wipe(), 0);
        DUE.is("Promise 3: from the first letter on", x.write('O'), 1);
        DUE.is("Promise 3: nothing of the old one is left", x.fault(), HalfTruths.NONE);
        DUE.is("Promise 3: the court stays", Due.anew(x, "OP00M12"), 11);
        x.wipe();
        DUE.is("Promise 3: people stay", x.count(1), 1);
    }

    private static void faultOf(String text, int want) {
        HalfTruths x = Due.write(new HalfTruths(), text);
        DUE.is("Promise 4: fault of " + text, x.fault(), want);
        DUE.is("Promise 4: text stays " + text, x.count(0), text.length());
        DUE.is("Promise 5: court of " + text, x.court() == HalfTruths.STATE ? 1 : 0, want == HalfTruths.NONE ? 0 : 1);
    }

    private static void faults() {
        int none = HalfTruths.NONE;
        faultOf("", 0);
        faultOf("O", none);
        faultOf("o", 0);
        faultOf("P00", 0);
        faultOf("OO", 1);
        faultOf("O0", 1);
        faultOf("OX", 1);
        faultOf("OP", 2);
        faultOf("OP0", 3);
        faultOf("OP00", none);
        faultOf("OP13", none);
        faultOf("OP2", 2);
        faultOf("OP/", 2);
        faultOf("OP04", 3);
        faultOf("OP0/", 3);
        faultOf("OP0P", 3);
        faultOf("OM", 2);
        faultOf("OM0", 3);
        faultOf("OM09", none);
        faultOf("OM90", none);
        faultOf("OM:0", 2);
        faultOf("OM/", 2);
        faultOf("OM0:", 3);
        faultOf("OM0/", 3);
        faultOf("OP00X", 4);
        faultOf("OP00P12P03P11P02P10", none);
        faultOf("OP00P12P03P11P02P10P", 19);
        faultOf("OM00M11M22M33", none);
        faultOf("OM00M11M22M33M", 13);
        faultOf("OP0X000", 3);
        String sixteen = "OP00P10M00M11M22M33S00S01S02S03S10S11S12S13";
        faultOf(sixteen, none);
        faultOf(sixteen + "P00P0", 48);
        faultOf(sixteen + "P00PX", 47);
    }

    private static void faultsOfSightings() {
        int none = HalfTruths.NONE;
        faultOf("OS", 1);
        faultOf("OP00S", 4);
        faultOf("OM00S", 4);
        faultOf("OP00M00S", 8);
        faultOf("OP00M00S0", 9);
        faultOf("OP00M00S00", none);
        faultOf("OP03M00S00", none);
        faultOf("OP00M00S1", 8);
        faultOf("OP00M00S/", 8);
        faultOf("OP00M00S01", 9);
        faultOf("OP00M00S0/", 9);
        faultOf("OP00M00S00S", 10);
        faultOf("OP00M00S00P10S", 14);
        faultOf("OP00M00S00P10S0", 14);
        faultOf("OP00M00S00P10S10", none);
        faultOf("OP00M00M11S00S00", 15);
        faultOf("OP00M00M11S00S01", none);
        faultOf("OP00M00M11S00S01S", 16);
        faultOf("OP00M00S00M11S00", 15);
        faultOf("OP00M00S00M11S01", none);
        faultOf("OP00M00S10P10", 8);
    }

    private static void courts() {
        HalfTruths x = new HalfTruths();
        DUE.is("Promise 5: no text", x.court(), HalfTruths.STATE);
        DUE.is("Promise 5: nobody, nothing", Due.anew(x, "O"), 0);
        DUE.is("Promise 5: all that can be", Due.anew(x, "OP00P01P02P03P10P11M01M23M45M67S00S51"), 64);
        DUE.is("Promise 5: the text stays", x.count(0), 37);
        DUE.is("Promise 5: once more", x.court(), 64);
        String before = Due.picture(x);
        DUE.is("Promise 5: a fault", Due.anew(x, "OP00M"), HalfTruths.STATE);
        Due.write(x, "X");
        x.wipe();
        Due.write(x, "OP00P01P02P03P10P11M01M23M45M67S00S51");
        DUE.same("Promise 5: what is refused", before, Due.picture(x));
        DUE.is("Promise 5: people ahead", Due.anew(x, "OM12P13S00"), 11);
        DUE.is("Promise 5: fewer", x.person(1, 0), HalfTruths.UNKNOWN);
    }

    private static void courtForgets() {
        HalfTruths x = Due.court("OP00P10M45S00S10");
        x.hear(0, 0, 3);
        x.seed(77);
        x.swear(0, 1, 0);
        x.drop(0);
        x.keep(0);
        x.keep(1);
        Due.write(x, "X");
        DUE.is("Promise 5: a fault", x.court(), HalfTruths.STATE);
        DUE.is("Promise 5: then the row stays", x.count(7), 2);
        DUE.is("Promise 5: then known stays", x.matter(0, 2), 45);
        DUE.is("Promise 5: then slots stay", x.again(1), 1);
        x.drop(0);
        DUE.is("Promise 5: anew", Due.anew(x, "OP00P10M45S00S10"), 21);
        DUE.is("Promise 5: row empty", x.count(7), 0);
        DUE.is("Promise 5: not undone", x.undo(), HalfTruths.STATE);
        DUE.is("Promise 5: kept is gone", x.again(0), HalfTruths.STATE);
        DUE.is("Promise 5: kept is gone", x.again(1), HalfTruths.STATE);
        DUE.is("Promise 5: nothing known", x.count(4), 0);
        DUE.is("Promise 5: nobody fined", x.count(6), 0);
        DUE.is("Promise 5: eye as told", x.person(0, 0), 0);
        DUE.is("Promise 5: heard stays", x.count(8), 1);
        DUE.is("Promise 5: seed stays", x.seed(0), 77);
    }

    /** Nothing of an earlier reading, nor of what was only tried, is in a new court. */
    private static void courtIsNew() {
        HalfTruths x = Due.court("OP11P12P13P00M45S00S10S20S30");
        DUE.is("Promise 18: all can be", x.judge(3, 301301300), HalfTruths.NONE);
        DUE.is("Promise 5: anew", Due.anew(x, "OP00P00P00P00M67"), 41);
        for (int p = 0; p < 4; p++) {
            for (int what = 0; what < 4; what++) {
                DUE.is("Promise 5: new person " + p + " " + what, x.person(p, what), 0);
            }
        }
        DUE.is("Promise 5: new matter", x.matter(0, 2), HalfTruths.NONE);
        DUE.is("Promise 5: nobody fined", x.count(6), 0);
    }

    private static void people() {
        HalfTruths x = Due.court("OP00P11P02P13M45M67S00S01S11S30");
        int[][] due = {{0, 0, 3, 0}, {1, 1, 2, 0}, {0, 2, 0, 0}, {1, 3, 1, 0}};
        for (int p = 0; p < 4; p++) {
            for (int what = 0; what < 4; what++) {
                DUE.is("Promise 6: person " + p + " " + what, x.person(p, what), due[p][what]);
            }
        }
        x.drop(1);
        x.drop(1);
        x.drop(1);
        x.drop(2);
        DUE.is("Promise 6: eye", x.person(1, 0), 0);
        DUE.is("Promise 6: fines", x.person(1, 3), 3);
        DUE.is("Promise 6: kind", x.person(2, 1), 0);
        DUE.is("Promise 6: UNKNOWN", x.person(4, 0), HalfTruths.UNKNOWN);
        DUE.is("Promise 6: UNKNOWN", x.person(-1, 0), HalfTruths.UNKNOWN);
        DUE.is("Promise 6: UNKNOWN first", x.person(6, 9), HalfTruths.UNKNOWN);
        DUE.is("Promise 6: OUTSIDE", x.person(0, 4), HalfTruths.OUTSIDE);
        DUE.is("Promise 6: OUTSIDE", x.person(0, -1), HalfTruths.OUTSIDE);
    }

    private static void matters() {
        HalfTruths x = Due.court("OP00P11P02P13P00M45M70S00S10S20S30S31S41");
        int[][] due = {{4, 5, HalfTruths.NONE, 5, 6}, {7, 0, HalfTruths.NONE, 16, 0}};
        for (int m = 0; m < 2; m++) {
            for (int what = 0; what < 5; what++) {
                DUE.is("Promise 7: matter " + m + " " + what, x.matter(m, what), due[m][what]);
            }
        }
        x.swear(0, 1, 0);
        DUE.is("Promise 7: known", x.matter(0, 2), 44);
        x.drop(0);
        DUE.is("Promise 7: left after a drop", x.matter(0, 3), 4);
        DUE.is("Promise 7: right after a drop", x.matter(0, 4), 7);
        DUE.is("Promise 7: known stays after a drop", x.matter(0, 2), 44);
        x.drop(2);
        DUE.is("Promise 7: a child's right half is gone", x.matter(0, 4), 3);
        DUE.is("Promise 7: UNKNOWN", x.matter(2, 0), HalfTruths.UNKNOWN);
        DUE.is("Promise 7: UNKNOWN", x.matter(-1, 9), HalfTruths.UNKNOWN);
        DUE.is("Promise 7: OUTSIDE", x.matter(0, 5), HalfTruths.OUTSIDE);
        DUE.is("Promise 7: OUTSIDE", x.matter(0, -1), HalfTruths.OUTSIDE);
    }

    private static void sayings() {
        HalfTruths x = Due.court("OP00P11P02P13P01M27S00S10S20S30S40M00");
        int none = HalfTruths.NONE;
        int[][] due = {{2, none}, {none, 2}, {2, 7}, {none, none}, {7, none}};
        for (int p = 0; p < 5; p++) {
            for (int half = 0; half < 2; half++) {
                DUE.is("Promise 8: says " + p + " " + half, x.says(p, 0, half), due[p][half]);
            }
        }
        DUE.is("Promise 8: not seen", x.says(0, 1, 0), none);
        DUE.is("Promise 8: UNKNOWN person", x.says(5, 0, 0), HalfTruths.UNKNOWN);
        DUE.is("Promise 8: UNKNOWN matter", x.says(0, 2, 0), HalfTruths.UNKNOWN);
        DUE.is("Promise 8: UNKNOWN first", x.says(0, -1, 2), HalfTruths.UNKNOWN);
        DUE.is("Promise 8: UNKNOWN first", x.says(-1, 0, 2), HalfTruths.UNKNOWN);
        DUE.is("Promise 8: OUTSIDE", x.says(0, 0, 2), HalfTruths.OUTSIDE);
        DUE.is("Promise 8: OUTSIDE", x.says(0, 0, -1), HalfTruths.OUTSIDE);
    }
}
