/** Counts and prints the answers that are not due. */
final class Due {
    private int calls;
    private int wrong;

    void is(String label, long got, long want) {
        calls++;
        if (got != want) {
            wrong++;
            System.out.println(label + ": answered " + got + ", due is " + want);
        }
    }

    void end() {
        System.out.println(calls + " answers, " + wrong + " not as due");
        if (wrong != 0 || calls == 0) {
            System.exit(1);
        }
    }

    /** Writes a text behind what there is. */
    static HalfTruths write(HalfTruths x, String text) {
        for (int at = 0; at < text.length(); at++) {
            x.write(text.charAt(at));
        }
        return x;
    }

    /** Wipes, writes, makes the court. */
    static int anew(HalfTruths x, String text) {
        x.wipe();
        write(x, text);
        return x.court();
    }

    static HalfTruths court(String text) {
        HalfTruths x = new HalfTruths();
        anew(x, text);
        return x;
    }

    /** All that can be asked without changing anything, as one text. */
    static String picture(HalfTruths x) {
        StringBuilder all = new StringBuilder();
        for (int what = 0; what <= 8; what++) {
            all.append("c").append(what).append('=').append(x.count(what)).append(' ');
        }
        for (int p = 0; p < x.count(1); p++) {
            for (int what = 0; what <= 3; what++) {
                all.append(x.person(p, what)).append(',');
            }
        }
        for (int m = 0; m < x.count(2); m++) {
            for (int what = 0; what <= 4; what++) {
                all.append(x.matter(m, what)).append(';');
            }
            for (int half = 0; half <= 1; half++) {
                for (int n = 0; n <= 6; n++) {
                    all.append(x.values(m, half, n)).append('/');
                }
            }
        }
        all.append(x.fault()).append(' ');
        long seed = x.seed(0);
        x.seed(seed);
        all.append(seed);
        return all.toString();
    }

    /** What was done between two pictures has changed nothing. */
    void same(String label, String before, String after) {
        is(label + (before.equals(after) ? "" : " changed " + before + " to " + after),
                before.equals(after) ? 1 : 0, 1);
    }
}
