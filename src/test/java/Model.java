import java.util.ArrayList;
import java.util.HashSet;
import java.util.List;
import java.util.Set;
import java.util.TreeSet;

/** A second, slow writing of the document, that shares no code with HalfTruths. */
final class Model {
    static final int UNKNOWN = -1, OUTSIDE = -2, STATE = -3, FULL = -4, NONE = -9;

    /** A person, a matter: plain records of what the text told and acts changed. */
    static final class Person {
        int eye;
        int kind;
        int fines;
        Set<Integer> saw = new TreeSet<>();
    }

    static final class Matter {
        int[] half = new int[2];
        Integer known;
    }

    static final class World {
        List<Person> people = new ArrayList<>();
        List<Matter> matters = new ArrayList<>();

        World copy() {
            World w = new World();
            for (Person p : people) {
                Person q = new Person();
                q.eye = p.eye;
                q.kind = p.kind;
                q.fines = p.fines;
                q.saw.addAll(p.saw);
                w.people.add(q);
            }
            for (Matter m : matters) {
                Matter n = new Matter();
                n.half = m.half.clone();
                n.known = m.known;
                w.matters.add(n);
            }
            return w;
        }

        boolean noPerson(int p) {
            return p < 0 || p >= people.size();
        }

        boolean noMatter(int m) {
            return m < 0 || m >= matters.size();
        }

        boolean sees(int p, int m, int half) {
            Person q = people.get(p);
            if (!q.saw.contains(m)) {
                return false;
            }
            switch (q.kind) {
                case 2:
                    return true;
                case 3:
                    return false;
                default:
                    return q.eye == half;
            }
        }

        int says(int p, int m, int half) {
            if (!sees(p, m, half)) {
                return NONE;
            }
            int is = matters.get(m).half[half];
            return people.get(p).kind == 1 ? 9 - is : is;
        }

        boolean couple(int i, int o, int m) {
            return i != o && sees(i, m, 0) && sees(o, m, 1);
        }

        List<int[]> couplesOf(int m) {
            List<int[]> all = new ArrayList<>();
            for (int i = 0; i < people.size(); i++) {
                for (int o = 0; o < people.size(); o++) {
                    if (couple(i, o, m)) {
                        all.add(new int[] {i, o});
                    }
                }
            }
            return all;
        }

        boolean coupleWithin(int m, int set) {
            for (int[] c : couplesOf(m)) {
                if ((set & 1 << c[0]) != 0 && (set & 1 << c[1]) != 0) {
                    return true;
                }
            }
            return false;
        }

        int within(int set) {
            int many = 0;
            for (int m = 0; m < matters.size(); m++) {
                many += coupleWithin(m, set) ? 1 : 0;
            }
            return many;
        }

        boolean show(int p, int m) {
            return !noPerson(p) && !noMatter(m) && people.get(p).saw.add(m);
        }

        boolean swear(int i, int o, int m) {
            if (noPerson(i) || noPerson(o) || noMatter(m) || matters.get(m).known != null || !couple(i, o, m)) {
                return false;
            }
            matters.get(m).known = 10 * says(i, m, 0) + says(o, m, 1);
            return true;
        }

        boolean deny(int m) {
            if (noMatter(m) || matters.get(m).known == null) {
                return false;
            }
            matters.get(m).known = null;
            return true;
        }

        boolean drop(int p) {
            if (noPerson(p) || people.get(p).kind == 3) {
                return false;
            }
            Person q = people.get(p);
            if (q.kind == 2) {
                q.kind = 0;
            } else {
                q.eye = 1 - q.eye;
            }
            q.fines++;
            return true;
        }

        int known() {
            int many = 0;
            for (Matter m : matters) {
                many += m.known == null ? 0 : 1;
            }
            return many;
        }
    }

    String text = "";
    World world = new World();
    List<World> before = new ArrayList<>();
    World[] slots = new World[2];
    List<int[]> heard = new ArrayList<>();
    long seed;

    // ---- the court

    int write(int letter) {
        if (letter < 0 || letter > 255) {
            return OUTSIDE;
        }
        if (text.length() == 48) {
            return FULL;
        }
        text += (char) letter;
        return text.length();
    }

    int wipe() {
        int was = text.length();
        text = "";
        return was;
    }

    /** The court that a whole text is, or null. */
    static World whole(String text) {
        if (!text.matches("(?s)O(P[01][0-3]|M[0-9][0-9]|S[0-5][0-3])*")) {
            return null;
        }
        World w = new World();
        Set<String> sightings = new HashSet<>();
        for (int at = 1; at < text.length(); at += 3) {
            int a = text.charAt(at + 1) - '0';
            int b = text.charAt(at + 2) - '0';
            if (text.charAt(at) == 'P') {
                Person p = new Person();
                p.eye = a;
                p.kind = b;
                w.people.add(p);
            } else if (text.charAt(at) == 'M') {
                Matter m = new Matter();
                m.half[0] = a;
                m.half[1] = b;
                w.matters.add(m);
            } else {
                if (w.noPerson(a) || w.noMatter(b) || !sightings.add(a + "saw" + b)) {
                    return null;
                }
                w.people.get(a).saw.add(b);
            }
        }
        return w.people.size() > 6 || w.matters.size() > 4 ? null : w;
    }

    /** Whether something behind the beginning (nothing, one letter, two) makes it a court. */
    static boolean canBecome(String beginning) {
        if (whole(beginning) != null) {
            return true;
        }
        String letters = "O0123456789";
        for (char a : letters.toCharArray()) {
            if (whole(beginning + a) != null) {
                return true;
            }
            for (char b : letters.toCharArray()) {
                if (whole(beginning + a + b) != null) {
                    return true;
                }
            }
        }
        return false;
    }

    int fault() {
        for (int at = 0; at < text.length(); at++) {
            if (!canBecome(text.substring(0, at + 1))) {
                return at;
            }
        }
        return whole(text) != null ? NONE : text.length();
    }

    int court() {
        World w = whole(text);
        if (w == null) {
            return STATE;
        }
        world = w;
        before.clear();
        slots = new World[2];
        return 10 * w.people.size() + w.matters.size();
    }

    int person(int person, int what) {
        if (world.noPerson(person)) {
            return UNKNOWN;
        }
        Person p = world.people.get(person);
        int bits = 0;
        for (int m : p.saw) {
            bits += 1 << m;
        }
        return what == 0 ? p.eye : what == 1 ? p.kind : what == 2 ? bits : what == 3 ? p.fines : OUTSIDE;
    }

    int matter(int matter, int what) {
        if (world.noMatter(matter)) {
            return UNKNOWN;
        }
        Matter m = world.matters.get(matter);
        if (what == 0 || what == 1) {
            return m.half[what];
        }
        if (what == 2) {
            return m.known == null ? NONE : m.known;
        }
        if (what != 3 && what != 4) {
            return OUTSIDE;
        }
        int bits = 0;
        for (int p = 0; p < world.people.size(); p++) {
            bits += world.sees(p, matter, what - 3) ? 1 << p : 0;
        }
        return bits;
    }

    int says(int person, int matter, int half) {
        if (world.noPerson(person) || world.noMatter(matter)) {
            return UNKNOWN;
        }
        return half != 0 && half != 1 ? OUTSIDE : world.says(person, matter, half);
    }

    // ---- acts

    private void done(World was) {
        before.add(was);
        if (before.size() == 15) {
            before.remove(0);
        }
    }

    int show(int person, int matter) {
        if (world.noPerson(person) || world.noMatter(matter)) {
            return UNKNOWN;
        }
        World was = world.copy();
        if (!world.show(person, matter)) {
            return STATE;
        }
        done(was);
        int many = 0;
        for (Person p : world.people) {
            many += p.saw.contains(matter) ? 1 : 0;
        }
        return many;
    }

    int swear(int i, int o, int matter) {
        if (world.noPerson(i) || world.noPerson(o) || world.noMatter(matter)) {
            return UNKNOWN;
        }
        World was = world.copy();
        if (!world.swear(i, o, matter)) {
            return STATE;
        }
        done(was);
        return world.matters.get(matter).known;
    }

    int deny(int matter) {
        if (world.noMatter(matter)) {
            return UNKNOWN;
        }
        World was = world.copy();
        if (!world.deny(matter)) {
            return STATE;
        }
        done(was);
        return was.matters.get(matter).known;
    }

    int drop(int person) {
        if (world.noPerson(person)) {
            return UNKNOWN;
        }
        World was = world.copy();
        if (!world.drop(person)) {
            return STATE;
        }
        done(was);
        return world.people.get(person).eye;
    }

    int undo() {
        if (before.isEmpty()) {
            return STATE;
        }
        world = before.remove(before.size() - 1);
        return before.size();
    }

    // ---- couples

    int couples(int matter, int what) {
        if (world.noMatter(matter)) {
            return UNKNOWN;
        }
        List<int[]> all = world.couplesOf(matter);
        if (what == 0) {
            return all.size();
        }
        if (what == 1) {
            int many = 0;
            int[] half = world.matters.get(matter).half;
            for (int[] c : all) {
                boolean right = world.says(c[0], matter, 0) == half[0] && world.says(c[1], matter, 1) == half[1];
                many += right ? 1 : 0;
            }
            return many;
        }
        if (what == 2) {
            int least = NONE;
            for (int[] c : all) {
                int told = 10 * c[0] + c[1];
                least = least == NONE || told < least ? told : least;
            }
            return least;
        }
        return OUTSIDE;
    }

    private int sets() {
        return 1 << world.people.size();
    }

    int cover() {
        for (int size = 0; size <= 6; size++) {
            for (int set = 0; set < sets(); set++) {
                if (Integer.bitCount(set) == size && world.within(set) == world.within(sets() - 1)) {
                    return set;
                }
            }
        }
        return -77;
    }

    int silence(int matter) {
        if (world.noMatter(matter)) {
            return UNKNOWN;
        }
        for (int size = 0; size <= 6; size++) {
            for (int set = 0; set < sets(); set++) {
                if (Integer.bitCount(set) == size && !world.coupleWithin(matter, sets() - 1 - set)) {
                    return set;
                }
            }
        }
        return -77;
    }

    private boolean mates(int a, int b) {
        for (int m = 0; m < world.matters.size(); m++) {
            if (world.couple(a, b, m) || world.couple(b, a, m)) {
                return true;
            }
        }
        return false;
    }

    /** Every row of pairs by rising first ones, behind the row that stands. */
    private void rows(int from, Set<Integer> taken, String row, TreeSet<String> all) {
        all.add((char) ('9' - row.length() / 2) + row);
        for (int a = from; a < world.people.size(); a++) {
            for (int b = a + 1; b < world.people.size(); b++) {
                if (!taken.contains(a) && !taken.contains(b) && mates(a, b)) {
                    Set<Integer> more = new HashSet<>(taken);
                    more.add(a);
                    more.add(b);
                    rows(a + 1, more, row + (a + 1) + (b + 1), all);
                }
            }
        }
    }

    int match(boolean row) {
        TreeSet<String> all = new TreeSet<>();
        rows(0, new HashSet<>(), "", all);
        String best = all.first().substring(1);
        if (!row) {
            return best.length() / 2;
        }
        return best.isEmpty() ? 0 : Integer.parseInt(best);
    }

    int judge(int n, int row) {
        if (n < 1 || n > 3 || row < 0) {
            return OUTSIDE;
        }
        String figures = Integer.toString(row);
        if (figures.length() > 3 * n) {
            return OUTSIDE;
        }
        figures = "000000000".substring(0, 3 * n - figures.length()) + figures;
        World w = world.copy();
        for (int at = 0; at < n; at++) {
            int a = figures.charAt(3 * at) - '0';
            int b = figures.charAt(3 * at + 1) - '0';
            int c = figures.charAt(3 * at + 2) - '0';
            boolean can = a == 1 ? w.show(b, c)
                    : a == 2 ? b == 0 && w.deny(c)
                    : a == 3 ? b == 0 && w.drop(c)
                    : a >= 4 && a <= 7 && w.swear(b, c, a - 4);
            if (!can) {
                return at;
            }
        }
        return NONE;
    }

    // ---- heard

    int hear(int matter, int half, int v) {
        if (world.noMatter(matter)) {
            return UNKNOWN;
        }
        if (half < 0 || half > 1 || v < 0 || v > 9) {
            return OUTSIDE;
        }
        if (heard.size() == 6) {
            return FULL;
        }
        heard.add(new int[] {matter, half, v});
        return heard.size();
    }

    int unhear() {
        int was = heard.size();
        heard.clear();
        return was;
    }

    int values(int matter, int half, int n) {
        if (world.noMatter(matter)) {
            return UNKNOWN;
        }
        if (half < 0 || half > 1 || n < 0 || n > 6) {
            return OUTSIDE;
        }
        int bits = 0;
        for (int v = 0; v < 10; v++) {
            int truths = 0;
            int lies = 0;
            int all = 0;
            for (int[] h : heard) {
                if (h[0] == matter && h[1] == half) {
                    all++;
                    truths += h[2] == v ? 1 : 0;
                    lies += h[2] + v == 9 ? 1 : 0;
                }
            }
            bits += truths + lies == all && lies <= n ? 1 << v : 0;
        }
        return bits;
    }

    // ---- shares, rests, chances

    private static int told(long above, long below, boolean upper) {
        long common = 1;
        for (long d = 2; d <= below; d++) {
            common = above % d == 0 && below % d == 0 ? d : common;
        }
        return (int) ((upper ? above : below) / common);
    }

    private long[] orders(int come, int person, int[] within) {
        if (come == sets() - 1) {
            return new long[] {0, 1};
        }
        long sum = 0;
        long many = 0;
        for (int p = 0; p < world.people.size(); p++) {
            if ((come & 1 << p) == 0) {
                long[] rest = orders(come | 1 << p, person, within);
                int more = p == person ? within[come | 1 << p] - within[come] : 0;
                sum += rest[0] + rest[1] * more;
                many += rest[1];
            }
        }
        return new long[] {sum, many};
    }

    int share(int person, boolean upper) {
        if (world.noPerson(person)) {
            return UNKNOWN;
        }
        int[] within = new int[sets()];
        for (int set = 0; set < sets(); set++) {
            within[set] = world.within(set);
        }
        long[] all = orders(0, person, within);
        return told(all[0], all[1], upper);
    }

    int rests(int one, int other, int matter, int what) {
        if (world.noPerson(one) || world.noPerson(other) || world.noMatter(matter)) {
            return UNKNOWN;
        }
        if (one == other || what != 0 && what != 1) {
            return OUTSIDE;
        }
        boolean couple = world.couple(one, other, matter) || world.couple(other, one, matter);
        int[][] ones = {{0, 0}, {-1, couple ? world.people.get(one).kind == 1 ? 4 : 3 : -2}};
        int[][] others = {{0, -1}, {0, couple ? world.people.get(other).kind == 1 ? 4 : 3 : -2}};
        List<Integer> at = new ArrayList<>();
        for (int a = 0; a < 2; a++) {
            for (int b = 0; b < 2; b++) {
                if (ones[1 - a][b] <= ones[a][b] && others[a][1 - b] <= others[a][b]) {
                    at.add(10 * a + b);
                }
            }
        }
        return what == 0 ? at.size() : at.isEmpty() ? NONE : at.get(0);
    }

    private long chance(int matter, int x, int person, int set) {
        if (person == world.people.size()) {
            return world.coupleWithin(matter, set) ? 1 : 0;
        }
        return x * chance(matter, x, person + 1, set | 1 << person) + (10 - x) * chance(matter, x, person + 1, set);
    }

    int come(int matter, int x, boolean upper) {
        if (world.noMatter(matter)) {
            return UNKNOWN;
        }
        if (x < 0 || x > 10) {
            return OUTSIDE;
        }
        long below = 1;
        for (int p = 0; p < world.people.size(); p++) {
            below *= 10;
        }
        // Only 2 and 5 can be common to both.
        long above = chance(matter, x, 0, 0);
        while (above % 2 == 0 && below % 2 == 0) {
            above /= 2;
            below /= 2;
        }
        while (above % 5 == 0 && below % 5 == 0) {
            above /= 5;
            below /= 5;
        }
        return (int) (upper ? above : below);
    }

    long seed(long v) {
        long was = seed;
        seed = v;
        return was;
    }

    int years(int m) {
        if (m < 1 || m > 30) {
            return OUTSIDE;
        }
        World w = world.copy();
        int sum = 0;
        for (int year = 0; year < m; year++) {
            seed = seed * 6364136223846793005L + 1442695040888963407L;
            long upper = (seed >> 33) & 0x7fffffffL;
            int left = (int) (upper % 30);
            if (left >= 24) {
                w.drop(left - 24);
            } else {
                w.show(left / 4, left % 4);
            }
            sum += w.within((1 << w.people.size()) - 1);
        }
        return sum;
    }

    // ---- slots

    int keep(int slot) {
        if (slot != 0 && slot != 1) {
            return UNKNOWN;
        }
        slots[slot] = world.copy();
        return world.known();
    }

    int again(int slot) {
        if (slot != 0 && slot != 1) {
            return UNKNOWN;
        }
        if (slots[slot] == null) {
            return STATE;
        }
        world = slots[slot].copy();
        before.clear();
        return world.known();
    }

    int count(int what) {
        int can = 0;
        int known = 0;
        int rightly = 0;
        int fines = 0;
        for (int m = 0; m < world.matters.size(); m++) {
            Matter n = world.matters.get(m);
            can += world.couplesOf(m).isEmpty() ? 0 : 1 << m;
            known += n.known == null ? 0 : 1 << m;
            rightly += n.known != null && n.known == 10 * n.half[0] + n.half[1] ? 1 << m : 0;
        }
        for (Person p : world.people) {
            fines += p.fines;
        }
        int[] all = {text.length(), world.people.size(), world.matters.size(), can, known, rightly, fines,
            before.size(), heard.size()};
        return what < 0 || what >= all.length ? OUTSIDE : all[what];
    }
}
