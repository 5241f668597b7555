import java.util.function.Supplier;
import java.util.function.ToLongFunction;

/** REFUSALS: of several the first that a call names; what is refused, or only asked, changes nothing. */
public final class RefusalsTest {
    private static final Due DUE = new Due();
    private static final int UNKNOWN = HalfTruths.UNKNOWN;
    private static final int OUTSIDE = HalfTruths.OUTSIDE;
    private static final int STATE = HalfTruths.STATE;
    private static final int FULL = HalfTruths.FULL;
    // Numbers of nobody and nothing, whatever the court: below, above, and such as wrap in shifts or casts.
    private static final int[] FAR = {-1, -2, -32, -64, -256, 7, 32, 64, 256, 65536, 1 << 30,
        Integer.MIN_VALUE, Integer.MAX_VALUE};

    public static void main(String[] args) throws Exception {
        DUE.sentence(1, "What is refused changes nothing.");
        text();
        people();
        matters();
        sayings();
        shown();
        sworn();
        deniedAndDropped();
        couples();
        judged();
        heard();
        values();
        shares();
        rests();
        comes();
        yearsAndSlots();
        counts();
        DUE.sentence(1, "REFUSALS, of several the first that a call names");
        nobodyNothing();
        DUE.sentence(1, "In what follows nothing is changed.");
        onlyAsked();
        DUE.quoted(1, 1, args);
        DUE.end();
    }

    /** Of all there can be something: a known matter, acts, a slot, six heard, a text of 48 with a fault. */
    private static HalfTruths rich() {
        HalfTruths x = Due.court("OP00P11P02P13M45M67S00S10S20");
        x.swear(0, 1, 0);
        x.drop(2);
        x.show(1, 1);
        x.keep(0);
        x.drop(0);
        for (int k = 0; k < 6; k++) {
            x.hear(k / 3, k % 2, 4);
        }
        x.seed(77);
        return Due.write(x, "S30S01S11S21S31P00P0");
    }

    /** The call on such an object as made answers so, and leaves it as one that was not called. */
    private static void refused(Supplier<HalfTruths> made, String label, ToLongFunction<HalfTruths> call, int want) {
        HalfTruths x = made.get();
        DUE.is(label, call.applyAsLong(x), want);
        DUE.same(label, Due.whole(made.get()), Due.whole(x));
    }

    private static void refused(String label, ToLongFunction<HalfTruths> call, int want) {
        refused(RefusalsTest::rich, label, call, want);
    }

    private static void text() {
        for (int far : new int[] {-1, 256, -256, 65536 + 'O', Integer.MIN_VALUE, Integer.MAX_VALUE}) {
            refused("write " + far, x -> x.write(far), OUTSIDE);
            refused(() -> Due.court("OP00"), "write " + far, x -> x.write(far), OUTSIDE);
        }
        for (int letter : new int[] {0, '0', 'O', 255}) {
            refused("write " + letter, x -> x.write(letter), FULL);
        }
        refused("court", x -> x.court(), STATE);
        refused(() -> Due.court("OP00M12"), "undo", x -> x.undo(), STATE);
    }

    private static void people() {
        for (int far : FAR) {
            refused("person " + far, x -> x.person(far, 0), UNKNOWN);
            refused("person, both " + far, x -> x.person(far, far), UNKNOWN);
            refused("person, what " + far, x -> x.person(3, far), OUTSIDE);
        }
        refused("person", x -> x.person(4, 0), UNKNOWN);
        refused("person, both", x -> x.person(4, 4), UNKNOWN);
        refused("person, what", x -> x.person(0, 4), OUTSIDE);
    }

    private static void matters() {
        for (int far : FAR) {
            refused("matter " + far, x -> x.matter(far, 0), UNKNOWN);
            refused("matter, both " + far, x -> x.matter(far, far), UNKNOWN);
            refused("matter, what " + far, x -> x.matter(1, far), OUTSIDE);
        }
        refused("matter", x -> x.matter(2, 0), UNKNOWN);
        refused("matter, both", x -> x.matter(2, 5), UNKNOWN);
        refused("matter, what", x -> x.matter(0, 5), OUTSIDE);
    }

    private static void sayings() {
        for (int far : FAR) {
            refused("says, person " + far, x -> x.says(far, 0, 0), UNKNOWN);
            refused("says, matter " + far, x -> x.says(0, far, 0), UNKNOWN);
            refused("says, person, half " + far, x -> x.says(far, 0, far), UNKNOWN);
            refused("says, matter, half " + far, x -> x.says(0, far, far), UNKNOWN);
            refused("says, half " + far, x -> x.says(3, 1, far), OUTSIDE);
        }
        refused("says, person", x -> x.says(4, 0, 0), UNKNOWN);
        refused("says, matter", x -> x.says(0, 2, 0), UNKNOWN);
        refused("says, half", x -> x.says(0, 0, 2), OUTSIDE);
    }

    private static void shown() {
        for (int far : FAR) {
            refused("show, person " + far, x -> x.show(far, 0), UNKNOWN);
            refused("show, matter " + far, x -> x.show(0, far), UNKNOWN);
            refused("show, both " + far, x -> x.show(far, far), UNKNOWN);
        }
        refused("show, person", x -> x.show(4, 1), UNKNOWN);
        refused("show, matter", x -> x.show(3, 2), UNKNOWN);
        refused("show, seen by the text", x -> x.show(0, 0), STATE);
        refused("show, seen by an act", x -> x.show(1, 1), STATE);
    }

    private static void sworn() {
        for (int far : FAR) {
            refused("swear, i " + far, x -> x.swear(far, 1, 0), UNKNOWN);
            refused("swear, o " + far, x -> x.swear(0, far, 0), UNKNOWN);
            refused("swear, matter " + far, x -> x.swear(0, 1, far), UNKNOWN);
            refused("swear, i and o " + far, x -> x.swear(far, far, 1), UNKNOWN);
        }
        refused("swear, i", x -> x.swear(4, 1, 0), UNKNOWN);
        refused("swear, o", x -> x.swear(2, 4, 0), UNKNOWN);
        refused("swear, matter", x -> x.swear(2, 1, 2), UNKNOWN);
        refused("swear, known", x -> x.swear(2, 1, 0), STATE);
        refused("swear, known, no couple", x -> x.swear(3, 3, 0), STATE);
        refused("swear, no couple", x -> x.swear(2, 1, 1), STATE);
        refused("swear, one", x -> x.swear(1, 1, 1), STATE);
    }

    private static void deniedAndDropped() {
        for (int far : FAR) {
            refused("deny " + far, x -> x.deny(far), UNKNOWN);
            refused("drop " + far, x -> x.drop(far), UNKNOWN);
        }
        refused("deny", x -> x.deny(2), UNKNOWN);
        refused("drop", x -> x.drop(4), UNKNOWN);
        refused("deny, not known", x -> x.deny(1), STATE);
        refused("drop, a saint", x -> x.drop(3), STATE);
    }

    private static void couples() {
        for (int far : FAR) {
            refused("couples " + far, x -> x.couples(far, 0), UNKNOWN);
            refused("couples, both " + far, x -> x.couples(far, far), UNKNOWN);
            refused("couples, what " + far, x -> x.couples(1, far), OUTSIDE);
            refused("silence " + far, x -> x.silence(far), UNKNOWN);
        }
        refused("couples", x -> x.couples(2, 0), UNKNOWN);
        refused("couples, both", x -> x.couples(2, 3), UNKNOWN);
        refused("couples, what", x -> x.couples(0, 3), OUTSIDE);
        refused("silence", x -> x.silence(2), UNKNOWN);
    }

    private static void judged() {
        for (int far : FAR) {
            refused("judge, n " + far, x -> x.judge(far, 300), OUTSIDE);
            refused("judge, both " + far, x -> x.judge(far, -1), OUTSIDE);
            refused("judge, row " + -far, x -> x.judge(1, far < 0 ? far : -far), OUTSIDE);
        }
        refused("judge, n", x -> x.judge(0, 0), OUTSIDE);
        refused("judge, n", x -> x.judge(4, 300301302), OUTSIDE);
        refused("judge, row", x -> x.judge(1, 1000), OUTSIDE);
        refused("judge, row", x -> x.judge(2, 1300301), OUTSIDE);
        refused("judge, row", x -> x.judge(3, 1300301302), OUTSIDE);
    }

    private static void heard() {
        for (int far : FAR) {
            refused("hear, matter " + far, x -> x.hear(far, 0, 0), UNKNOWN);
            refused("hear, all " + far, x -> x.hear(far, far, far + 9), UNKNOWN);
            refused("hear, half " + far, x -> x.hear(0, far, 0), OUTSIDE);
            refused("hear, v " + far, x -> x.hear(0, 0, far < 0 ? far : far + 3), OUTSIDE);
            refused(() -> Due.court("OM45"), "hear, half " + far, x -> x.hear(0, far, 0), OUTSIDE);
            refused(() -> Due.court("OM45"), "hear, v " + far, x -> x.hear(0, 0, far < 0 ? far : far + 3), OUTSIDE);
        }
        refused("hear, matter", x -> x.hear(2, 0, 0), UNKNOWN);
        refused("hear, half", x -> x.hear(0, 2, 0), OUTSIDE);
        refused("hear, v", x -> x.hear(0, 0, 10), OUTSIDE);
        refused("hear, six", x -> x.hear(0, 0, 3), FULL);
        refused("hear, six, as heard", x -> x.hear(0, 0, 4), FULL);
    }

    private static void values() {
        for (int far : FAR) {
            refused("values, matter " + far, x -> x.values(far, 0, 0), UNKNOWN);
            refused("values, all " + far, x -> x.values(far, far, far), UNKNOWN);
            refused("values, half " + far, x -> x.values(0, far, 0), OUTSIDE);
            refused("values, n " + far, x -> x.values(0, 0, far), OUTSIDE);
        }
        refused("values, matter", x -> x.values(2, 0, 0), UNKNOWN);
        refused("values, half", x -> x.values(1, 2, 0), OUTSIDE);
        refused("values, n", x -> x.values(1, 1, 7), OUTSIDE);
    }

    private static void shares() {
        for (int far : FAR) {
            refused("share, above " + far, x -> x.share(far, true), UNKNOWN);
            refused("share, below " + far, x -> x.share(far, false), UNKNOWN);
        }
        refused("share, above", x -> x.share(4, true), UNKNOWN);
        refused("share, below", x -> x.share(4, false), UNKNOWN);
    }

    private static void rests() {
        for (int far : FAR) {
            refused("rests, one " + far, x -> x.rests(far, 1, 0, 0), UNKNOWN);
            refused("rests, other " + far, x -> x.rests(0, far, 0, 0), UNKNOWN);
            refused("rests, matter " + far, x -> x.rests(0, 1, far, 0), UNKNOWN);
            refused("rests, one is other " + far, x -> x.rests(far, far, 0, far), UNKNOWN);
            refused("rests, one is other, matter " + far, x -> x.rests(1, 1, far, far), UNKNOWN);
            refused("rests, what " + far, x -> x.rests(0, 1, 0, far), OUTSIDE);
        }
        refused("rests, one", x -> x.rests(4, 1, 0, 0), UNKNOWN);
        refused("rests, other", x -> x.rests(0, 4, 0, 0), UNKNOWN);
        refused("rests, matter", x -> x.rests(0, 1, 2, 0), UNKNOWN);
        refused("rests, one is other", x -> x.rests(3, 3, 1, 1), OUTSIDE);
        refused("rests, what", x -> x.rests(0, 1, 0, 2), OUTSIDE);
    }

    private static void comes() {
        for (int far : FAR) {
            int tenths = far < 0 ? far : far + 4;
            refused("come, above " + far, x -> x.come(far, 5, true), UNKNOWN);
            refused("come, below " + far, x -> x.come(far, 5, false), UNKNOWN);
            refused("come, both " + far, x -> x.come(far, tenths, true), UNKNOWN);
            refused("come, x above " + tenths, x -> x.come(1, tenths, true), OUTSIDE);
            refused("come, x below " + tenths, x -> x.come(1, tenths, false), OUTSIDE);
        }
        refused("come, matter", x -> x.come(2, 5, true), UNKNOWN);
        refused("come, x", x -> x.come(0, 11, false), OUTSIDE);
    }

    private static void yearsAndSlots() {
        for (int far : FAR) {
            refused("years " + far, x -> x.years(far < 0 ? far : far + 24), OUTSIDE);
            refused("keep " + far, x -> x.keep(far), UNKNOWN);
            refused("again " + far, x -> x.again(far), UNKNOWN);
        }
        refused("years", x -> x.years(0), OUTSIDE);
        refused("years", x -> x.years(31), OUTSIDE);
        refused("keep", x -> x.keep(2), UNKNOWN);
        refused("again", x -> x.again(2), UNKNOWN);
        refused("again, none were kept", x -> x.again(1), STATE);
    }

    private static void counts() {
        for (int far : FAR) {
            refused("count " + far, x -> x.count(far < 0 ? far : far + 2), OUTSIDE);
        }
        refused("count", x -> x.count(9), OUTSIDE);
    }

    /** On a new object whatever names a person or a matter is UNKNOWN, other wrong numbers or not. */
    private static void nobodyNothing() {
        Supplier<HalfTruths> made = HalfTruths::new;
        for (int k : new int[] {-1, 0, 1, 5, 9}) {
            refused(made, "person", x -> x.person(k, k), UNKNOWN);
            refused(made, "matter", x -> x.matter(k, k), UNKNOWN);
            refused(made, "says", x -> x.says(k, k, k), UNKNOWN);
            refused(made, "show", x -> x.show(k, k), UNKNOWN);
            refused(made, "swear", x -> x.swear(k, k, k), UNKNOWN);
            refused(made, "deny", x -> x.deny(k), UNKNOWN);
            refused(made, "drop", x -> x.drop(k), UNKNOWN);
            refused(made, "couples", x -> x.couples(k, k), UNKNOWN);
            refused(made, "silence", x -> x.silence(k), UNKNOWN);
            refused(made, "hear", x -> x.hear(k, k, k), UNKNOWN);
            refused(made, "values", x -> x.values(k, k, k), UNKNOWN);
            refused(made, "share", x -> x.share(k, true), UNKNOWN);
            refused(made, "rests", x -> x.rests(k, k, k, k), UNKNOWN);
            refused(made, "come", x -> x.come(k, k, false), UNKNOWN);
        }
        refused(made, "court", x -> x.court(), STATE);
        refused(made, "undo", x -> x.undo(), STATE);
        refused(made, "again 0", x -> x.again(0), STATE);
        refused(made, "again 1", x -> x.again(1), STATE);
    }

    private static void asked(String label, ToLongFunction<HalfTruths> call) {
        HalfTruths x = rich();
        long once = call.applyAsLong(x);
        DUE.is(label + " asked again", call.applyAsLong(x), once);
        DUE.same(label, Due.whole(rich()), Due.whole(x));
    }

    private static void onlyAsked() {
        asked("fault", x -> x.fault());
        asked("cover", x -> x.cover());
        for (int m = 0; m < 2; m++) {
            int matter = m;
            asked("silence", x -> x.silence(matter));
            asked("first couple", x -> x.couples(matter, 2));
            asked("values", x -> x.values(matter, 1, 2));
            asked("come", x -> x.come(matter, 3, matter == 0));
            asked("rests", x -> x.rests(2, 1, matter, 0));
            asked("says", x -> x.says(2, matter, 0));
        }
        asked("match", x -> x.match(true));
        asked("how many pairs", x -> x.match(false));
        asked("share", x -> x.share(1, true));
        asked("judge, all can be", x -> x.judge(3, 200300301));
        asked("judge, the last can not", x -> x.judge(3, 200300303));
        asked("judge, the first can not", x -> x.judge(3, 303200300));
        for (int what = 0; what <= 8; what++) {
            int asks = what;
            asked("count " + what, x -> x.count(asks));
        }
    }
}
