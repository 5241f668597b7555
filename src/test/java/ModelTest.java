/** Runs of calls by fixed seeds: each answer of HalfTruths against that of Model. */
public final class ModelTest {
    private static final int RUNS = 1500;
    private static final int MOST_CALLS = 512;
    private static final int[] ODD = {-1, -2, 31, 100, -9, 64, Integer.MAX_VALUE, Integer.MIN_VALUE};

    private final Due due = new Due();
    private final int run;
    private long state;
    private HalfTruths x = new HalfTruths();
    private Model y = new Model();

    private ModelTest(int run) {
        this.run = run;
        state = run * 7919L + 13;
    }

    public static void main(String[] args) {
        Due all = new Due();
        for (int run = 0; run < RUNS; run++) {
            ModelTest test = new ModelTest(run);
            all.is("run " + run, test.goes() ? 1 : 0, 1);
        }
        all.end();
    }

    private int below(int n) {
        state = state * 0x5851f42d4c957f2dL + 0x14057b7ef767814fL;
        long mixed = state ^ state >>> 29;
        return (int) ((mixed >>> 8 & 0x7fffffffL) % n);
    }

    /** Mostly 0 to n - 1, at times n, at times something odd. */
    private int some(int n) {
        int dice = below(40);
        if (dice == 0) {
            return ODD[below(ODD.length)];
        }
        return dice == 1 ? n : below(n);
    }

    private String figures(int a, int b) {
        return "" + below(a) + below(b);
    }

    private String courtText() {
        int people = below(10) == 0 ? below(7) : 2 + below(5);
        int matters = below(10) == 0 ? below(5) : 1 + below(4);
        StringBuilder text = new StringBuilder("O");
        for (int p = 0; p < people; p++) {
            int kind = below(3) == 0 ? 0 : below(4);
            text.append('P').append(below(2)).append(kind);
        }
        for (int m = 0; m < matters; m++) {
            text.append('M').append(figures(10, 10));
        }
        int sightings = below(17);
        for (int s = 0; s < sightings; s++) {
            String part = "S" + figures(Math.max(people, 1), Math.max(matters, 1));
            if (below(25) == 0 || text.indexOf(part) < 0) {
                text.append(part);
            }
        }
        while (text.length() > 48) {
            text.setLength(text.length() - (below(10) == 0 ? 1 : 3));
        }
        if (below(4) == 0) {
            int at = below(text.length());
            String letters = "OPMS0123456789X";
            text.setCharAt(at, letters.charAt(below(letters.length())));
        }
        return text.toString();
    }

    private boolean same(String call, long got, long want) {
        if (got != want) {
            due.is("run " + run + " " + call, got, want);
            return false;
        }
        return true;
    }

    private boolean goes() {
        int calls = 0;
        // A turn makes 52 calls at most: one that wipes, writes 48 letters, makes the court, and one more.
        while (calls <= MOST_CALLS - 52) {
            if (below(60) == 0 || calls == 0) {
                String text = courtText();
                calls += 3;
                if (!same("wipe", x.wipe(), y.wipe())) {
                    return false;
                }
                for (int at = 0; at < text.length(); at++) {
                    calls++;
                    if (!same("write", x.write(text.charAt(at)), y.write(text.charAt(at)))) {
                        return false;
                    }
                }
                if (!same("fault of " + text, x.fault(), y.fault())
                        || !same("court of " + text, x.court(), y.court())) {
                    return false;
                }
            }
            calls++;
            if (!(below(3) == 0 ? acts() : below(2) == 0 ? asks() : reckons())) {
                return false;
            }
        }
        return true;
    }

    private boolean acts() {
        int p = some(6);
        int q = some(6);
        int m = some(4);
        switch (below(12)) {
            case 0:
            case 1:
                return same("show " + p + " " + m, x.show(p, m), y.show(p, m));
            case 2:
            case 3:
                return same("swear " + p + " " + q + " " + m, x.swear(p, q, m), y.swear(p, q, m));
            case 4:
                return same("deny " + m, x.deny(m), y.deny(m));
            case 5:
                return same("drop " + p, x.drop(p), y.drop(p));
            case 6:
                return same("undo", x.undo(), y.undo());
            case 7:
                int couple = y.couples(m, 2);
                if (couple < 0) {
                    return true;
                }
                return same("swear first", x.swear(couple / 10, couple % 10, m), y.swear(couple / 10, couple % 10, m));
            case 8:
                int slot = some(2);
                return same("keep " + slot, x.keep(slot), y.keep(slot));
            case 9:
                int from = some(2);
                return below(2) == 0 || same("again " + from, x.again(from), y.again(from));
            case 10:
                int half = some(2);
                int v = below(2) == 0 ? some(10) : 4 + below(2);
                return same("hear " + m + half + v, x.hear(m, half, v), y.hear(m, half, v));
            default:
                int letter = below(2) == 0 ? some(256) : "OPMS0123".charAt(below(8));
                return below(4) == 0 ? same("unhear", x.unhear(), y.unhear())
                        : same("write " + letter, x.write(letter), y.write(letter));
        }
    }

    private boolean asks() {
        int p = some(6);
        int m = some(4);
        int half = some(2);
        int what = some(5);
        switch (below(7)) {
            case 0:
                return same("person " + p + " " + what, x.person(p, what), y.person(p, what));
            case 1:
                return same("matter " + m + " " + what, x.matter(m, what), y.matter(m, what));
            case 2:
                return same("says " + p + m + half, x.says(p, m, half), y.says(p, m, half));
            case 3:
                int n = some(7);
                return same("values " + m + half + n, x.values(m, half, n), y.values(m, half, n));
            case 4:
                return same("fault", x.fault(), y.fault());
            default:
                int number = some(9);
                return same("count " + number, x.count(number), y.count(number));
        }
    }

    private boolean reckons() {
        int p = some(6);
        int q = some(6);
        int m = some(4);
        boolean upper = below(2) == 0;
        switch (below(10)) {
            case 0:
            case 1:
                int what = some(3);
                return same("couples " + m + " " + what, x.couples(m, what), y.couples(m, what));
            case 2:
                return same("cover", x.cover(), y.cover());
            case 3:
                return same("silence " + m, x.silence(m), y.silence(m));
            case 4:
                return same("match " + upper, x.match(upper), y.match(upper));
            case 5:
                int n = 1 + below(3);
                int row = below(20) == 0 ? some(1000000) : told(n);
                n = below(20) == 0 ? some(4) : n;
                return same("judge " + n + " " + row, x.judge(n, row), y.judge(n, row));
            case 6:
                return below(3) != 0 || same("share " + p + upper, x.share(p, upper), y.share(p, upper));
            case 7:
                int w = some(2);
                return same("rests " + p + q + m + w, x.rests(p, q, m, w), y.rests(p, q, m, w));
            case 8:
                int t = some(11);
                return same("come " + m + " " + t + upper, x.come(m, t, upper), y.come(m, t, upper));
            default:
                long v = (long) below(Integer.MAX_VALUE) * below(Integer.MAX_VALUE) - below(1000);
                int years = 1 + some(30);
                return below(4) == 0 ? same("seed " + v, x.seed(v), y.seed(v))
                        : same("years " + years, x.years(years), y.years(years));
        }
    }

    private int told(int n) {
        int row = 0;
        for (int at = 0; at < n; at++) {
            int first = below(8) == 0 ? below(10) : 1 + below(7);
            int second = first == 2 || first == 3 ? below(8) == 0 ? 1 : 0 : below(7);
            int third = first == 1 || first == 2 ? below(5) : below(7);
            row = 1000 * row + 100 * first + 10 * second + third;
        }
        return row;
    }
}
