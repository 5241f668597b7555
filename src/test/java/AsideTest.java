import java.util.ArrayList;
import java.util.List;
import java.util.function.Consumer;
import java.util.function.Function;
import java.util.function.ToLongFunction;

/**
 * What is read, asked, judged, reckoned or refused leaves no trace: whatever is called next answers
 * as it does on an object on which that was not called, and leaves the same behind.
 */
public final class AsideTest {
    private static final Due DUE = new Due();
    private static final String MOST = "OP00P10P01P12P02P03M45M67M81M90";
    // Texts that are read ahead of a call: none, fewer and more than there are, with a fault and without.
    private static final String[] TEXTS = {"", "X", "O", "OP03", "OP10M00", "OP1", "OM00M11M2",
        "OP13P03P10P02P12P00M00M11M22M33S20S30S40S50S", "OP02P02P02P02P02P02P0"};

    private record Call(String name, ToLongFunction<HalfTruths> asked) {
    }

    public static void main(String[] args) throws Exception {
        DUE.sentence(4, "FAULT: the place (from 0 on) of the first letter by which THE TEXT can be no COURT");
        for (String text : TEXTS) {
            leavesNoTrace("fault of " + text, text, x -> x.fault());
        }
        DUE.sentence(5, "What is refused changes nothing.");
        for (String text : TEXTS) {
            if (Due.write(new HalfTruths(), text).fault() != HalfTruths.NONE) {
                leavesNoTrace("court of " + text, text, x -> x.court());
            }
        }
        leavesNoTrace("refused acts", "OP0", AsideTest::refusedActs);
        DUE.sentence(14, "In what follows nothing is changed.");
        leavesNoTrace("all that is asked", "OP0", AsideTest::asks);
        DUE.sentence(18, "In what follows nothing is changed.");
        for (int row : new int[] {300301302, 300300303, 153112401, 200300305, 501110302, 999, 0}) {
            leavesNoTrace("judge " + row, "OP0", x -> x.judge(3, row));
        }
        DUE.sentence(26, "(Nothing changes but THE SEED.)");
        for (int years : new int[] {1, 7, 30}) {
            leavesNoTrace("years " + years, "OP0", x -> years(x, years));
        }
        DUE.quoted(4, 5, args);
        DUE.end();
    }

    // ---- objects that such things may fall upon

    /** Six people, four matters, of each kind some; known rightly, wrongly, not at all; one slot. */
    private static HalfTruths rich(String text) {
        HalfTruths x = Due.court(MOST + "S00S10S20S30S11");
        x.show(3, 1);
        x.show(4, 1);
        x.show(2, 2);
        x.show(3, 2);
        x.show(5, 3);
        x.swear(0, 1, 0);
        x.swear(2, 3, 2);
        x.keep(0);
        x.drop(0);
        x.drop(4);
        x.deny(0);
        x.hear(0, 0, 4);
        x.hear(0, 0, 5);
        x.hear(3, 1, 9);
        x.seed(77);
        x.wipe();
        return Due.write(x, text);
    }

    /** Two people, one matter: less than most of what is read ahead. */
    private static HalfTruths poor(String text) {
        HalfTruths x = Due.court("OP02P11M45S00S10");
        x.swear(0, 1, 0);
        x.wipe();
        return Due.write(x, text);
    }

    private static HalfTruths nobody(String text) {
        return Due.write(new HalfTruths(), text);
    }

    // ---- what is called ahead

    private static void refusedActs(HalfTruths x) {
        int[] answers = {x.show(0, 0), x.swear(5, 5, 0), x.swear(0, 0, 0), x.deny(3), x.drop(5), x.drop(6),
            x.show(6, 4), x.again(1), x.keep(2), x.hear(0, 2, 0), x.years(0), x.write(256)};
        for (int answer : answers) {
            DUE.is("refused", answer < 0 ? 1 : 0, 1);
        }
    }

    private static void asks(HalfTruths x) {
        for (int m = 0; m < 4; m++) {
            for (int what = 0; what <= 2; what++) {
                x.couples(m, what);
            }
            x.silence(m);
            x.values(m, 0, 1);
            x.rests(0, 1, m, 0);
            x.come(m, 5, true);
            x.matter(m, 3);
        }
        for (int p = 0; p < 6; p++) {
            x.share(p, true);
            x.person(p, 2);
            x.says(p, 0, 1);
        }
        x.cover();
        x.match(true);
        x.fault();
    }

    private static void years(HalfTruths x, int m) {
        long was = x.seed(5);
        x.years(m);
        x.seed(was);
    }

    // ---- what is called next

    private static List<Call> calls() {
        List<Call> all = new ArrayList<>();
        textsAndNobody(all);
        for (int p = 0; p <= 6; p++) {
            ofPerson(all, p);
            for (int m = 0; m <= 4; m++) {
                ofPersonAndMatter(all, p, m);
            }
        }
        for (int m = 0; m <= 4; m++) {
            ofMatter(all, m);
        }
        for (int what = 0; what <= 9; what++) {
            int asks = what;
            all.add(new Call("count " + what, x -> x.count(asks)));
        }
        return all;
    }

    private static void textsAndNobody(List<Call> all) {
        all.add(new Call("write", x -> x.write('P')));
        all.add(new Call("wipe", x -> x.wipe()));
        all.add(new Call("fault", x -> x.fault()));
        all.add(new Call("court", x -> x.court()));
        all.add(new Call("undo", x -> x.undo()));
        all.add(new Call("cover", x -> x.cover()));
        all.add(new Call("match", x -> x.match(true)));
        all.add(new Call("pairs", x -> x.match(false)));
        all.add(new Call("unhear", x -> x.unhear()));
        all.add(new Call("seed", x -> x.seed(3)));
        all.add(new Call("years", x -> x.years(20)));
        for (int slot = 0; slot <= 2; slot++) {
            int number = slot;
            all.add(new Call("keep " + slot, x -> x.keep(number)));
            all.add(new Call("again " + slot, x -> x.again(number)));
        }
        for (int row : new int[] {300301302, 120121122, 513514100, 200202300, 413200413}) {
            all.add(new Call("judge " + row, x -> x.judge(3, row)));
        }
    }

    private static void ofPerson(List<Call> all, int p) {
        for (int what = 0; what <= 4; what++) {
            int asks = what;
            all.add(new Call("person " + p + " " + what, x -> x.person(p, asks)));
        }
        all.add(new Call("drop " + p, x -> x.drop(p)));
        all.add(new Call("share above " + p, x -> x.share(p, true)));
        all.add(new Call("share below " + p, x -> x.share(p, false)));
    }

    private static void ofPersonAndMatter(List<Call> all, int p, int m) {
        all.add(new Call("show " + p + " " + m, x -> x.show(p, m)));
        all.add(new Call("says left " + p + " " + m, x -> x.says(p, m, 0)));
        all.add(new Call("says right " + p + " " + m, x -> x.says(p, m, 1)));
        for (int other = 0; other <= 6; other++) {
            int o = other;
            String three = p + " " + o + " " + m;
            all.add(new Call("swear " + three, x -> x.swear(p, o, m)));
            all.add(new Call("rests " + three, x -> x.rests(p, o, m, 0)));
            all.add(new Call("first rest " + three, x -> x.rests(p, o, m, 1)));
        }
    }

    private static void ofMatter(List<Call> all, int m) {
        for (int what = 0; what <= 5; what++) {
            int asks = what;
            all.add(new Call("matter " + m + " " + what, x -> x.matter(m, asks)));
            all.add(new Call("couples " + m + " " + what, x -> x.couples(m, asks)));
        }
        all.add(new Call("deny " + m, x -> x.deny(m)));
        all.add(new Call("silence " + m, x -> x.silence(m)));
        for (int half = 0; half <= 2; half++) {
            int eye = half;
            all.add(new Call("hear " + m + " " + half, x -> x.hear(m, eye, 7)));
            all.add(new Call("values " + m + " " + half, x -> x.values(m, eye, 1)));
        }
        all.add(new Call("come above " + m, x -> x.come(m, 3, true)));
        all.add(new Call("come below " + m, x -> x.come(m, 3, false)));
    }

    // ---- with it and without it

    private static void leavesNoTrace(String label, String text, Consumer<HalfTruths> aside) {
        against(label + ", six people", AsideTest::rich, text, aside);
        against(label + ", two people", AsideTest::poor, text, aside);
        against(label + ", nobody", AsideTest::nobody, text, aside);
    }

    private static void against(String label, Function<String, HalfTruths> made, String text,
            Consumer<HalfTruths> aside) {
        for (Call call : calls()) {
            HalfTruths without = made.apply(text);
            HalfTruths with = made.apply(text);
            aside.accept(with);
            String next = label + ", then " + call.name();
            DUE.is(next, call.asked().applyAsLong(with), call.asked().applyAsLong(without));
            DUE.same(next, behind(without), behind(with));
        }
    }

    /** What stands behind, its last acts and its slots too; some 300 calls at most. */
    private static String behind(HalfTruths x) {
        StringBuilder all = new StringBuilder(Due.picture(x));
        for (int k = 0; k < 3; k++) {
            all.append(" undo ").append(x.undo()).append(' ').append(Due.shortPicture(x));
        }
        for (int slot = 0; slot < 2; slot++) {
            all.append(" slot ").append(x.again(slot)).append(' ').append(Due.shortPicture(x));
        }
        return all.toString();
    }
}
