import java.io.IOException;
import java.nio.file.Files;
import java.nio.file.Path;
import java.util.ArrayList;
import java.util.List;
import java.util.Set;
import java.util.TreeSet;

/** Counts and prints the answers that are not due. */
final class Due {
    private int calls;
    private int wrong;
    // What stands ahead of each label: the sentence that is looked at.
    private String ahead = "";
    private final List<String> quotes = new ArrayList<>();
    private final Set<Integer> promises = new TreeSet<>();

    void is(String label, long got, long want) {
        calls++;
        if (got != want) {
            wrong++;
            System.out.println(ahead + label + ": answered " + got + ", due is " + want);
        }
    }

    /** What is looked at from here on is this sentence of the document, that belongs to a promise. */
    void sentence(int promise, String quote) {
        promises.add(promise);
        quotes.add(quote);
        ahead = "Promise " + promise + ", \"" + quote + "\": ";
    }

    /** Each of these promises had a sentence; each sentence stands in the document, if its path is told. */
    void quoted(int from, int to, String[] args) throws IOException {
        ahead = "";
        for (int promise = from; promise <= to; promise++) {
            is("Promise " + promise + " has a sentence", promises.contains(promise) ? 1 : 0, 1);
        }
        if (args.length < 2) {
            return;
        }
        String document = inOneLine(Files.readString(Path.of(args[1])));
        for (String quote : quotes) {
            is("in the document: " + quote, document.contains(inOneLine(quote)) ? 1 : 0, 1);
        }
    }

    private static String inOneLine(String text) {
        return text.replaceAll("\\s+", " ");
    }

    void end() {
        System.out.println(calls + " answers, " + wrong + " not as due");
        if (wrong != 0 || calls == 0) {
            System.exit(1);
        }
    }

    /** Writes a text behind what there is. */
    static HalfTruths write(HalfTruths x, String text) {
        for (int at = 0; at < text.length(); at++) {
            x.write(text.charAt(at));
        }
        return x;
    }

    /** Wipes, writes, makes the court. */
    static int anew(HalfTruths x, String text) {
        x.wipe();
        write(x, text);
        return x.court();
    }

    /** A new object whose court is this text; a text that can be none is a fault of the test. */
    static HalfTruths court(String text) {
        HalfTruths x = new HalfTruths();
        if (anew(x, text) < 0 || x.count(0) != text.length()) {
            System.out.println("no court: " + text);
            System.exit(1);
        }
        return x;
    }

    /** All that can be asked without changing anything, as one text. */
    static String picture(HalfTruths x) {
        StringBuilder all = new StringBuilder();
        for (int what = 0; what <= 8; what++) {
            all.append("c").append(what).append('=').append(x.count(what)).append(' ');
        }
        for (int p = 0; p < x.count(1); p++) {
            for (int what = 0; what <= 3; what++) {
                all.append(x.person(p, what)).append(',');
            }
        }
        for (int m = 0; m < x.count(2); m++) {
            for (int what = 0; what <= 4; what++) {
                all.append(x.matter(m, what)).append(';');
            }
            for (int half = 0; half <= 1; half++) {
                for (int n = 0; n <= 6; n++) {
                    all.append(x.values(m, half, n)).append('/');
                }
            }
        }
        all.append(x.fault()).append(' ');
        long seed = x.seed(0);
        x.seed(seed);
        all.append(seed);
        return all.toString();
    }

    /** What can be asked of people and matters by few calls (an object has but 512). */
    static String shortPicture(HalfTruths x) {
        StringBuilder all = new StringBuilder();
        int people = x.count(1);
        int matters = x.count(2);
        for (int p = 0; p < people; p++) {
            for (int what = 0; what <= 3; what++) {
                all.append(x.person(p, what)).append(',');
            }
        }
        for (int m = 0; m < matters; m++) {
            all.append(x.matter(m, 2)).append(';');
        }
        return all.toString();
    }

    /** All that the object holds, its row of acts and its slots too: these are used up by asking. */
    static String whole(HalfTruths x) {
        StringBuilder all = new StringBuilder();
        all.append(x.count(0)).append(' ').append(x.count(7)).append(' ').append(x.count(8)).append(' ');
        all.append(x.fault()).append(' ').append(x.seed(0)).append(' ');
        for (int m = 0; m < x.count(2); m++) {
            all.append(x.values(m, 0, 1)).append('/').append(x.values(m, 1, 1)).append(' ');
        }
        all.append(shortPicture(x));
        int left = 0;
        for (int k = 0; k < 15 && left >= 0; k++) {
            left = x.undo();
            all.append(" undo ").append(left).append(' ').append(shortPicture(x));
        }
        for (int slot = 0; slot < 2; slot++) {
            all.append(" slot ").append(x.again(slot)).append(' ').append(shortPicture(x));
        }
        return all.toString();
    }

    /** What was done between two pictures has changed nothing. */
    void same(String label, String before, String after) {
        is(label + (before.equals(after) ? "" : " changed " + before + " to " + after),
                before.equals(after) ? 1 : 0, 1);
    }
}
