/** Promises 9 to 13, sentence by sentence: acts that can not be, the fullest row, the emptiest. */
public final class EdgesActsTest {
    private static final Due DUE = new Due();

    public static void main(String[] args) throws Exception {
        howManySaw();
        showRefused();
        knownAs();
        swornUnknown();
        swornKnown();
        swornByNoCouple();
        theyAreTwo();
        deniedAs();
        denyRefused();
        eyeThen();
        childIsPlain();
        dropRefused();
        finedOneMore();
        howManyAreLeft();
        noneToUndo();
        fourteen();
        fifteen();
        manyMore();
        eachKindForgotten();
        refusedOnesAreNoActs();
        DUE.quoted(9, 13, args);
        DUE.end();
    }

    // ---- promise 9

    private static void howManySaw() {
        DUE.sentence(9, "SHOWN: how many saw it.");
        HalfTruths x = Due.court("OP00P11P02P13P01P10M00M00M00M00");
        for (int matter = 0; matter <= 3; matter++) {
            for (int person = 0; person <= 5; person++) {
                DUE.is("matter " + matter + " to " + person, x.show(person, matter), person + 1);
                DUE.is("it saw it", x.person(person, 2), (2 << matter) - 1);
            }
        }
        HalfTruths y = Due.court("OP00P00P00M00S00S20");
        DUE.is("those of the text saw it too", y.show(1, 0), 3);
    }

    private static void showRefused() {
        DUE.sentence(9, "UNKNOWN: both; STATE: it saw it.");
        HalfTruths x = Due.court("OP00P03M00M00S00S10");
        DUE.is("third person", x.show(2, 0), HalfTruths.UNKNOWN);
        DUE.is("person below", x.show(-1, 0), HalfTruths.UNKNOWN);
        DUE.is("third matter", x.show(0, 2), HalfTruths.UNKNOWN);
        DUE.is("matter below", x.show(0, -1), HalfTruths.UNKNOWN);
        DUE.is("both", x.show(2, 2), HalfTruths.UNKNOWN);
        DUE.is("saw it by the text", x.show(0, 0), HalfTruths.STATE);
        DUE.is("a saint saw it too", x.show(1, 0), HalfTruths.STATE);
        DUE.is("the last two can", x.show(1, 1), 1);
        DUE.is("saw it by an act", x.show(1, 1), HalfTruths.STATE);
        x.undo();
        DUE.is("undone, so it can", x.show(1, 1), 1);
        DUE.is("nothing else was done", x.count(7), 1);
    }

    // ---- promise 10

    private static void knownAs() {
        DUE.sentence(10, "as what i says of its left HALF (by 10) and what o says of its right one");
        for (int left = 0; left <= 9; left++) {
            for (int right = 0; right <= 9; right++) {
                HalfTruths x = Due.court("OP00P10P01P11P02M" + left + right + "S00S10S20S30S40");
                DUE.is("plain", x.swear(0, 1, 0), 10 * left + right);
                x.undo();
                DUE.is("left one lies", x.swear(2, 1, 0), 10 * (9 - left) + right);
                x.undo();
                DUE.is("right one lies", x.swear(0, 3, 0), 10 * left + 9 - right);
                x.undo();
                DUE.is("both lie", x.swear(2, 3, 0), 99 - 10 * left - right);
                x.undo();
                DUE.is("a child, a liar", x.swear(4, 3, 0), 10 * left + 9 - right);
                x.undo();
                DUE.is("a liar, a child", x.swear(2, 4, 0), 10 * (9 - left) + right);
                DUE.is("so it is known", x.matter(0, 2), 10 * (9 - left) + right);
                DUE.is("never as it is", x.count(5), 0);
            }
        }
    }

    private static void swornUnknown() {
        DUE.sentence(10, "UNKNOWN: all three;");
        HalfTruths x = Due.court("OP00P10M00S00S10");
        int[] none = {-1, 2};
        for (int wrong : none) {
            DUE.is("i " + wrong, x.swear(wrong, 1, 0), HalfTruths.UNKNOWN);
            DUE.is("o " + wrong, x.swear(0, wrong, 0), HalfTruths.UNKNOWN);
            DUE.is("i and o " + wrong, x.swear(wrong, wrong, 0), HalfTruths.UNKNOWN);
            DUE.is("of one that could not", x.swear(wrong, 0, 0), HalfTruths.UNKNOWN);
            DUE.is("all three", x.swear(wrong, wrong, wrong), HalfTruths.UNKNOWN);
        }
        DUE.is("second matter", x.swear(0, 1, 1), HalfTruths.UNKNOWN);
        DUE.is("matter below", x.swear(0, 1, -1), HalfTruths.UNKNOWN);
        DUE.is("known by none of it", x.count(4), 0);
        x.swear(0, 1, 0);
        DUE.is("ahead of STATE: i", x.swear(2, 1, 0), HalfTruths.UNKNOWN);
        DUE.is("ahead of STATE: o", x.swear(0, 2, 0), HalfTruths.UNKNOWN);
    }

    private static void swornKnown() {
        DUE.sentence(10, "STATE: it is KNOWN, or they are no COUPLE for it (i, o).");
        HalfTruths x = Due.court("OP00P10P02M00M99S00S10S20S01S11");
        DUE.is("as 0", x.swear(0, 1, 0), 0);
        DUE.is("by the same", x.swear(0, 1, 0), HalfTruths.STATE);
        DUE.is("by others", x.swear(2, 1, 0), HalfTruths.STATE);
        DUE.is("by no couple", x.swear(1, 0, 0), HalfTruths.STATE);
        DUE.is("another matter is not", x.swear(0, 1, 1), 99);
        DUE.is("then it is", x.swear(0, 1, 1), HalfTruths.STATE);
        x.deny(0);
        DUE.is("denied, so it can be", x.swear(0, 2, 0), 0);
        x.undo();
        x.undo();
        DUE.is("known once more", x.swear(0, 2, 0), HalfTruths.STATE);
    }

    private static void swornByNoCouple() {
        DUE.sentence(10, "STATE: it is KNOWN, or they are no COUPLE for it (i, o).");
        HalfTruths x = Due.court("OP00P10P03P13P00P10M00M00S00S10S20S30S40S51");
        int[][] none = {{1, 0}, {0, 4}, {4, 0}, {0, 3}, {2, 1}, {2, 3}, {3, 2}, {0, 5}, {5, 1}, {5, 5}, {0, 0}};
        for (int[] two : none) {
            DUE.is(two[0] + " and " + two[1], x.swear(two[0], two[1], 0), HalfTruths.STATE);
        }
        DUE.is("nothing is known", x.count(4), 0);
        DUE.is("a couple of another matter", x.swear(0, 1, 1), HalfTruths.STATE);
        DUE.is("a couple", x.swear(4, 1, 0), 0);
    }

    private static void theyAreTwo() {
        DUE.sentence(10, "i sees its left HALF, o its right one, and they are two");
        HalfTruths x = Due.court("OP02P12M37S00S10");
        DUE.is("one child", x.swear(0, 0, 0), HalfTruths.STATE);
        DUE.is("the other child", x.swear(1, 1, 0), HalfTruths.STATE);
        DUE.is("both", x.swear(0, 1, 0), 37);
        x.undo();
        DUE.is("both, the other way", x.swear(1, 0, 0), 37);
        HalfTruths alone = Due.court("OP02M37S00");
        DUE.is("alone", alone.swear(0, 0, 0), HalfTruths.STATE);
        DUE.is("it can not be known", alone.count(3), 0);
    }

    // ---- promise 11

    private static void deniedAs() {
        DUE.sentence(11, "DENIED: as what it was KNOWN.");
        int[] halves = {0, 9, 10, 45, 90, 99};
        for (int as : halves) {
            HalfTruths x = Due.court("OP00P10M" + as / 10 + as % 10 + "S00S10");
            x.swear(0, 1, 0);
            DUE.is("as " + as, x.deny(0), as);
            DUE.is("no more", x.matter(0, 2), HalfTruths.NONE);
            DUE.is("no more", x.count(4), 0);
        }
        HalfTruths liars = Due.court("OP01P11M99S00S10");
        liars.swear(0, 1, 0);
        DUE.is("as two liars said", liars.deny(0), 0);
    }

    private static void denyRefused() {
        DUE.sentence(11, "UNKNOWN; STATE: it is not KNOWN.");
        HalfTruths x = Due.court("OP00P10M00M11M22M33S03S13");
        DUE.is("fifth matter", x.deny(4), HalfTruths.UNKNOWN);
        DUE.is("below", x.deny(-1), HalfTruths.UNKNOWN);
        DUE.is("not known", x.deny(3), HalfTruths.STATE);
        x.swear(0, 1, 3);
        DUE.is("another one", x.deny(2), HalfTruths.STATE);
        DUE.is("the last one", x.deny(3), 33);
        DUE.is("not known any more", x.deny(3), HalfTruths.STATE);
        DUE.is("two acts", x.count(7), 2);
    }

    // ---- promise 12

    private static void eyeThen() {
        DUE.sentence(12, "DROPPED: its EYE then.");
        String[] people = {"P00", "P10", "P01", "P11", "P02", "P12"};
        int[][] eyes = {{1, 0, 1}, {0, 1, 0}, {1, 0, 1}, {0, 1, 0}, {0, 1, 0}, {1, 0, 1}};
        HalfTruths x = Due.court("O" + String.join("", people));
        for (int p = 0; p < 6; p++) {
            for (int time = 0; time < 3; time++) {
                DUE.is(people[p] + " time " + (time + 1), x.drop(p), eyes[p][time]);
                DUE.is(people[p] + " as told", x.person(p, 0), eyes[p][time]);
            }
        }
    }

    private static void childIsPlain() {
        DUE.sentence(12, "a CHILD is PLAIN (of the EYE that it has), and each is FINED 1 more");
        HalfTruths x = Due.court("OP02P12M45S00S10");
        x.drop(0);
        DUE.is("kind", x.person(0, 1), 0);
        DUE.is("left half", x.says(0, 0, 0), 4);
        DUE.is("right half", x.says(0, 0, 1), HalfTruths.NONE);
        x.drop(1);
        DUE.is("kind", x.person(1, 1), 0);
        DUE.is("left half", x.says(1, 0, 0), HalfTruths.NONE);
        DUE.is("right half", x.says(1, 0, 1), 5);
        DUE.is("fined", x.person(1, 3), 1);
        HalfTruths liar = Due.court("OP01");
        liar.drop(0);
        DUE.is("a liar is one still", liar.person(0, 1), 1);
        HalfTruths plain = Due.court("OP00");
        plain.drop(0);
        DUE.is("a plain one is one still", plain.person(0, 1), 0);
    }

    private static void dropRefused() {
        DUE.sentence(12, "UNKNOWN; STATE: it is a SAINT.");
        HalfTruths x = Due.court("OP03P13P00P00P00P03");
        DUE.is("seventh", x.drop(6), HalfTruths.UNKNOWN);
        DUE.is("below", x.drop(-1), HalfTruths.UNKNOWN);
        DUE.is("left saint", x.drop(0), HalfTruths.STATE);
        DUE.is("right saint", x.drop(1), HalfTruths.STATE);
        DUE.is("last saint", x.drop(5), HalfTruths.STATE);
        DUE.is("its eye stays", x.person(1, 0), 1);
        DUE.is("its kind stays", x.person(1, 1), 3);
        DUE.is("nobody is fined", x.count(6), 0);
        DUE.is("no act", x.count(7), 0);
        HalfTruths one = Due.court("OP00");
        DUE.is("second of one", one.drop(1), HalfTruths.UNKNOWN);
    }

    private static void finedOneMore() {
        DUE.sentence(12, "each is FINED 1 more");
        HalfTruths x = Due.court("OP00P11P02P12P01P10");
        for (int p = 0; p < 6; p++) {
            for (int time = 0; time <= p; time++) {
                x.drop(p);
                DUE.is("person " + p, x.person(p, 3), time + 1);
            }
        }
        DUE.is("of all", x.count(6), 21);
        x.undo();
        DUE.is("one less", x.person(5, 3), 5);
        DUE.is("one less of all", x.count(6), 20);
    }

    // ---- promise 13

    private static void howManyAreLeft() {
        DUE.sentence(13, "The last ACT is undone: how many are left.");
        for (int acts = 1; acts <= 14; acts++) {
            HalfTruths x = Due.court("OP00");
            for (int k = 0; k < acts; k++) {
                x.drop(0);
            }
            DUE.is("of " + acts, x.undo(), acts - 1);
            DUE.is("one fine less", x.person(0, 3), acts - 1);
            DUE.is("the eye ahead of it", x.person(0, 0), (acts - 1) % 2);
            DUE.is("in the row", x.count(7), acts - 1);
        }
    }

    private static void noneToUndo() {
        DUE.sentence(13, "STATE: there is none.");
        DUE.is("a new object", new HalfTruths().undo(), HalfTruths.STATE);
        HalfTruths x = Due.court("OP00P10M45S00S10");
        DUE.is("a new court", x.undo(), HalfTruths.STATE);
        x.show(0, 0);
        x.deny(0);
        x.drop(2);
        DUE.is("behind refused ones", x.undo(), HalfTruths.STATE);
        x.swear(0, 1, 0);
        DUE.is("the only one", x.undo(), 0);
        DUE.is("then none", x.undo(), HalfTruths.STATE);
        DUE.is("and none again", x.undo(), HalfTruths.STATE);
        x.hear(0, 0, 4);
        x.seed(4);
        x.years(3);
        x.keep(0);
        DUE.is("what else was done is no act", x.undo(), HalfTruths.STATE);
        x.drop(0);
        x.again(0);
        DUE.is("gone on from a slot", x.undo(), HalfTruths.STATE);
        x.drop(0);
        x.court();
        DUE.is("a court made anew", x.undo(), HalfTruths.STATE);
    }

    private static void fourteen() {
        DUE.sentence(13, "(14 at most; of more the first one is forgotten)");
        HalfTruths x = Due.court("OP02P10M45S00S10");
        x.swear(0, 1, 0);
        for (int k = 2; k <= 14; k++) {
            x.drop(0);
            DUE.is("in the row", x.count(7), k);
        }
        for (int left = 13; left >= 0; left--) {
            DUE.is("left", x.undo(), left);
        }
        DUE.is("the first is undone", x.matter(0, 2), HalfTruths.NONE);
        DUE.is("a child again", x.person(0, 1), 2);
        DUE.is("no more", x.undo(), HalfTruths.STATE);
    }

    private static void fifteen() {
        DUE.sentence(13, "(14 at most; of more the first one is forgotten)");
        HalfTruths x = Due.court("OP02P10M45S00S10");
        x.swear(0, 1, 0);
        for (int k = 2; k <= 15; k++) {
            x.drop(0);
        }
        DUE.is("in the row", x.count(7), 14);
        for (int left = 13; left >= 0; left--) {
            DUE.is("left", x.undo(), left);
        }
        DUE.is("the first is forgotten", x.undo(), HalfTruths.STATE);
        DUE.is("so it is known", x.matter(0, 2), 45);
        DUE.is("the second is undone", x.person(0, 1), 2);
        DUE.is("no fines", x.count(6), 0);
    }

    private static void manyMore() {
        DUE.sentence(13, "(14 at most; of more the first one is forgotten)");
        HalfTruths x = Due.court("OP00P00");
        for (int k = 0; k < 200; k++) {
            x.drop(k % 2);
            DUE.is("in the row", x.count(7), Math.min(14, k + 1));
        }
        DUE.is("one is undone", x.undo(), 13);
        x.drop(0);
        DUE.is("another comes", x.count(7), 14);
        x.drop(0);
        DUE.is("and one more", x.count(7), 14);
        for (int left = 13; left >= 0; left--) {
            DUE.is("left", x.undo(), left);
        }
        DUE.is("none", x.undo(), HalfTruths.STATE);
        // 102 drops of the one and 99 of the other stand then, of which the last 8 and 6 are undone.
        DUE.is("fines of the one", x.person(0, 3), 94);
        DUE.is("fines of the other", x.person(1, 3), 93);
    }

    /** An act of each kind as the fifteenth last: it stays; as the fourteenth last: it is undone. */
    private static void eachKindForgotten() {
        DUE.sentence(13, "ACTS (SHOWN, SWORN, DENIED, DROPPED) are a row");
        for (int drops = 13; drops <= 14; drops++) {
            boolean stays = drops == 14;
            HalfTruths shown = Due.court("OP00P10M45S10");
            shown.show(0, 0);
            behind(shown, drops);
            DUE.is("shown, " + drops + " behind", shown.person(0, 2), stays ? 1 : 0);
            HalfTruths sworn = Due.court("OP00P10M45S00S10");
            sworn.swear(0, 1, 0);
            behind(sworn, drops);
            DUE.is("sworn, " + drops + " behind", sworn.matter(0, 2), stays ? 45 : HalfTruths.NONE);
            HalfTruths denied = Due.court("OP00P10M45S00S10");
            denied.swear(0, 1, 0);
            denied.deny(0);
            behind(denied, drops);
            DUE.is("denied, " + drops + " behind", denied.matter(0, 2), stays ? HalfTruths.NONE : 45);
            HalfTruths dropped = Due.court("OP02P10M45S00S10");
            dropped.drop(0);
            behind(dropped, drops);
            DUE.is("dropped, " + drops + " behind", dropped.person(0, 1), stays ? 0 : 2);
            DUE.is("fined, " + drops + " behind", dropped.person(0, 3), stays ? 1 : 0);
        }
    }

    /** So many drops of person 1, then fourteen acts undone. */
    private static void behind(HalfTruths x, int drops) {
        for (int k = 0; k < drops; k++) {
            x.drop(1);
        }
        for (int k = 0; k < 14; k++) {
            x.undo();
        }
    }

    private static void refusedOnesAreNoActs() {
        DUE.sentence(13, "What is refused changes nothing.");
        HalfTruths x = Due.court("OP00P10P03M45M67S00S10");
        for (int k = 0; k < 14; k++) {
            x.drop(0);
        }
        DUE.is("show", x.show(0, 0), HalfTruths.STATE);
        DUE.is("swear", x.swear(0, 1, 1), HalfTruths.STATE);
        DUE.is("deny", x.deny(0), HalfTruths.STATE);
        DUE.is("drop", x.drop(2), HalfTruths.STATE);
        DUE.is("full as it was", x.count(7), 14);
        for (int left = 13; left >= 0; left--) {
            DUE.is("left", x.undo(), left);
        }
        DUE.is("all are undone", x.count(6), 0);
    }
}
