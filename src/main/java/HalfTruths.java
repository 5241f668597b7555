/**
 * Monocles: in this principality each sees but with one eye of any matter, and it takes two of
 * opposite eyes, who have sworn, to know a thing. See README.md and the document's promises.
 */
public final class HalfTruths {
    public static final int UNKNOWN = -1, OUTSIDE = -2, STATE = -3, FULL = -4, NONE = -9;

    private static final int MOST_LETTERS = 48;
    private static final int MOST_PEOPLE = 6;
    private static final int MOST_MATTERS = 4;
    private static final int MOST_ACTS = 14;
    private static final int MOST_HEARD = 6;
    private static final int MOST_DOINGS = 3;
    private static final int MOST_YEARS = 30;
    private static final int SLOTS = 2;
    private static final int SETS_OF_PEOPLE = 64;
    // Euclid needs some thirty turns at most for the numbers that stand in fractions here.
    private static final int MOST_TURNS = 100;

    private static final int LEFT = 0, RIGHT = 1;
    private static final int PLAIN = 0, LIAR = 1, CHILD = 2, SAINT = 3;
    private static final int SHOWN = 1, DENIED = 2, DROPPED = 3, SWORN = 4;

    private static final long SEED_TIMES = 6364136223846793005L;
    private static final long SEED_AND = 1442695040888963407L;

    private final Scroll text = new Scroll();
    private final Court court = new Court();
    // What is only tried (a reading, a judging, years to come) happens here.
    private final Court trial = new Court();
    private final Court keptZero = new Court();
    private final Court keptOne = new Court();
    private int keptSlots;
    private final ActRow acts = new ActRow();
    private final Hearsay heard = new Hearsay();
    // For each set of people (bits) the best row of pairs within it.
    private final int[] bestRows = new int[SETS_OF_PEOPLE];
    private long theSeed;

    public HalfTruths() {
    }

    // ---- the court

    public int write(int letter) {
        if (letter < 0 || letter > 255) {
            return OUTSIDE;
        }
        return text.add(letter) ? text.length : FULL;
    }

    public int wipe() {
        int was = text.length;
        text.length = 0;
        return was;
    }

    public int fault() {
        return text.readInto(trial);
    }

    public int court() {
        if (text.readInto(trial) != NONE) {
            return STATE;
        }
        court.become(trial);
        acts.size = 0;
        keptSlots = 0;
        return 10 * court.people + court.matters;
    }

    public int person(int person, int what) {
        if (!court.isPerson(person)) {
            return UNKNOWN;
        }
        switch (what) {
            case 0:
                return court.eyeOf(person);
            case 1:
                return court.kindOf(person);
            case 2:
                return court.seenBy(person);
            case 3:
                return court.finesOf(person);
            default:
                return OUTSIDE;
        }
    }

    public int matter(int matter, int what) {
        if (!court.isMatter(matter)) {
            return UNKNOWN;
        }
        switch (what) {
            case 0:
                return court.halfOf(matter, LEFT);
            case 1:
                return court.halfOf(matter, RIGHT);
            case 2:
                return court.knownAs(matter);
            case 3:
                return court.seersOf(matter, LEFT);
            case 4:
                return court.seersOf(matter, RIGHT);
            default:
                return OUTSIDE;
        }
    }

    public int says(int person, int matter, int half) {
        if (!court.isPerson(person) || !court.isMatter(matter)) {
            return UNKNOWN;
        }
        if (!isHalf(half)) {
            return OUTSIDE;
        }
        return court.saidBy(person, matter, half);
    }

    // ---- acts

    public int show(int person, int matter) {
        if (!court.isPerson(person) || !court.isMatter(matter)) {
            return UNKNOWN;
        }
        if (!court.canSee(person, matter)) {
            return STATE;
        }
        court.letSee(person, matter);
        acts.add(SHOWN, person, matter);
        return Integer.bitCount(court.witnessesOf(matter));
    }

    public int swear(int i, int o, int matter) {
        if (!court.isPerson(i) || !court.isPerson(o) || !court.isMatter(matter)) {
            return UNKNOWN;
        }
        if (!court.canLearn(i, o, matter)) {
            return STATE;
        }
        court.setKnown(matter, court.toldBy(i, o, matter));
        acts.add(SWORN, matter, NONE);
        return court.knownAs(matter);
    }

    public int deny(int matter) {
        if (!court.isMatter(matter)) {
            return UNKNOWN;
        }
        int was = court.knownAs(matter);
        if (was == NONE) {
            return STATE;
        }
        court.setKnown(matter, NONE);
        acts.add(DENIED, matter, was);
        return was;
    }

    public int drop(int person) {
        if (!court.isPerson(person)) {
            return UNKNOWN;
        }
        if (!court.canLoseGlass(person)) {
            return STATE;
        }
        acts.add(DROPPED, person, court.kindOf(person));
        court.loseGlass(person);
        return court.eyeOf(person);
    }

    public int undo() {
        if (acts.size == 0) {
            return STATE;
        }
        acts.takeBackLast(court);
        return acts.size;
    }

    // ---- couples

    public int couples(int matter, int what) {
        if (!court.isMatter(matter)) {
            return UNKNOWN;
        }
        switch (what) {
            case 0:
                return court.couplesOf(matter, false);
            case 1:
                return court.couplesOf(matter, true);
            case 2:
                return court.firstCoupleOf(matter);
            default:
                return OUTSIDE;
        }
    }

    public int cover() {
        int all = court.everybody();
        int wanted = court.knowableAmong(all);
        int best = all;
        for (int set = 0; set <= all; set++) {
            if (court.knowableAmong(set) == wanted && isFewer(set, best)) {
                best = set;
            }
        }
        return best;
    }

    public int silence(int matter) {
        if (!court.isMatter(matter)) {
            return UNKNOWN;
        }
        int all = court.everybody();
        int best = all;
        for (int set = 0; set <= all; set++) {
            if (!court.hasCoupleAmong(matter, all & ~set) && isFewer(set, best)) {
                best = set;
            }
        }
        return best;
    }

    public int match(boolean row) {
        int best = bestRow();
        return row ? best : pairsIn(best);
    }

    public int judge(int n, int row) {
        if (n < 1 || n > MOST_DOINGS) {
            return OUTSIDE;
        }
        if (row < 0 || withoutDoings(row, n) != 0) {
            return OUTSIDE;
        }
        trial.become(court);
        for (int at = 0; at < n; at++) {
            if (!trial.doneAsTold(withoutDoings(row, n - 1 - at) % 1000)) {
                return at;
            }
        }
        return NONE;
    }

    // ---- heard

    public int hear(int matter, int half, int v) {
        if (!court.isMatter(matter)) {
            return UNKNOWN;
        }
        if (!isHalf(half) || v < 0 || v > 9) {
            return OUTSIDE;
        }
        return heard.add(matter, half, v) ? heard.size : FULL;
    }

    public int unhear() {
        int was = heard.size;
        heard.size = 0;
        return was;
    }

    public int values(int matter, int half, int n) {
        if (!court.isMatter(matter)) {
            return UNKNOWN;
        }
        if (!isHalf(half) || n < 0 || n > MOST_HEARD) {
            return OUTSIDE;
        }
        int bits = 0;
        for (int v = 0; v <= 9; v++) {
            if (heard.allows(matter, half, v, n)) {
                bits |= 1 << v;
            }
        }
        return bits;
    }

    // ---- shares, rests, chances

    public int share(int person, boolean upper) {
        if (!court.isPerson(person)) {
            return UNKNOWN;
        }
        int all = court.everybody();
        int bit = 1 << person;
        int sum = 0;
        for (int ahead = 0; ahead <= all; ahead++) {
            if ((ahead & bit) == 0) {
                int more = Integer.bitCount(court.knowableAmong(ahead | bit))
                        - Integer.bitCount(court.knowableAmong(ahead));
                sum += more * ordersWithAhead(ahead);
            }
        }
        return inLeastTerms(sum, factorial(court.people), upper);
    }

    public int rests(int one, int other, int matter, int what) {
        if (!court.isPerson(one) || !court.isPerson(other) || !court.isMatter(matter)) {
            return UNKNOWN;
        }
        if (one == other || what < 0 || what > 1) {
            return OUTSIDE;
        }
        int many = 0;
        int first = NONE;
        for (int choices = 0; choices < 4; choices++) {
            int own = choices / 2;
            int others = choices % 2;
            if (isContent(one, other, matter, own, others) && isContent(other, one, matter, others, own)) {
                first = many == 0 ? 10 * own + others : first;
                many++;
            }
        }
        return what == 0 ? many : first;
    }

    public int come(int matter, int x, boolean upper) {
        if (!court.isMatter(matter)) {
            return UNKNOWN;
        }
        if (x < 0 || x > 10) {
            return OUTSIDE;
        }
        int all = court.everybody();
        int sum = 0;
        for (int set = 0; set <= all; set++) {
            if (court.hasCoupleAmong(matter, set)) {
                int coming = Integer.bitCount(set);
                sum += power(x, coming) * power(10 - x, court.people - coming);
            }
        }
        return inLeastTerms(sum, power(10, court.people), upper);
    }

    public long seed(long v) {
        long was = theSeed;
        theSeed = v;
        return was;
    }

    public int years(int m) {
        if (m < 1 || m > MOST_YEARS) {
            return OUTSIDE;
        }
        trial.become(court);
        int sum = 0;
        for (int year = 0; year < m; year++) {
            theSeed = theSeed * SEED_TIMES + SEED_AND;
            trial.passYear((int) ((theSeed >>> 33) % 30));
            sum += Integer.bitCount(trial.knowableAmong(trial.everybody()));
        }
        return sum;
    }

    // ---- slots

    public int keep(int slot) {
        if (!isSlot(slot)) {
            return UNKNOWN;
        }
        keptIn(slot).become(court);
        keptSlots |= 1 << slot;
        return Integer.bitCount(court.knownMatters());
    }

    public int again(int slot) {
        if (!isSlot(slot)) {
            return UNKNOWN;
        }
        if ((keptSlots >> slot & 1) == 0) {
            return STATE;
        }
        court.become(keptIn(slot));
        acts.size = 0;
        return Integer.bitCount(court.knownMatters());
    }

    public int count(int what) {
        switch (what) {
            case 0:
                return text.length;
            case 1:
                return court.people;
            case 2:
                return court.matters;
            case 3:
                return court.knowableAmong(court.everybody());
            case 4:
                return court.knownMatters();
            case 5:
                return court.rightlyKnownMatters();
            case 6:
                return court.allFines();
            case 7:
                return acts.size;
            case 8:
                return heard.size;
            default:
                return OUTSIDE;
        }
    }

    // ---- small helpers

    private static boolean isHalf(int half) {
        return half == LEFT || half == RIGHT;
    }

    private static boolean isSlot(int slot) {
        return slot >= 0 && slot < SLOTS;
    }

    private Court keptIn(int slot) {
        return slot == 0 ? keptZero : keptOne;
    }

    private static boolean isFewer(int set, int than) {
        int many = Integer.bitCount(set);
        int manyThan = Integer.bitCount(than);
        return many < manyThan || many == manyThan && set < than;
    }

    /** The row without its last doings (three figures each). */
    private static int withoutDoings(int row, int doings) {
        int rest = row;
        for (int k = 0; k < doings; k++) {
            rest /= 1000;
        }
        return rest;
    }

    /** The best row of all people, built up from those of fewer. */
    private int bestRow() {
        int all = court.everybody();
        int best = 0;
        for (int set = 0; set <= all && set < bestRows.length; set++) {
            best = bestRowIn(set);
            bestRows[set] = best;
        }
        return best;
    }

    /** Asks that the rows of all lesser sets stand; the least of the set is paired or left alone. */
    private int bestRowIn(int set) {
        int least = leastIn(set);
        if (least == NONE) {
            return 0;
        }
        int rest = set & ~(1 << least);
        int best = standingRow(rest);
        for (int other = least + 1; other < MOST_PEOPLE; other++) {
            if ((rest >> other & 1) == 1 && court.areCoupleForSome(least, other)) {
                int behind = standingRow(rest & ~(1 << other));
                int pair = 10 * (least + 1) + other + 1;
                best = betterRow(best, pair * power(100, pairsIn(behind)) + behind);
            }
        }
        return best;
    }

    private int standingRow(int set) {
        return set >= 0 && set < bestRows.length ? bestRows[set] : 0;
    }

    private static int leastIn(int set) {
        for (int person = 0; person < MOST_PEOPLE; person++) {
            if ((set >> person & 1) == 1) {
                return person;
            }
        }
        return NONE;
    }

    private static int betterRow(int one, int other) {
        int pairsOfOne = pairsIn(one);
        int pairsOfOther = pairsIn(other);
        if (pairsOfOne != pairsOfOther) {
            return pairsOfOne > pairsOfOther ? one : other;
        }
        return Math.min(one, other);
    }

    /** A pair has two figures, none of them 0: the size of the row tells how many there are. */
    private static int pairsIn(int row) {
        if (row == 0) {
            return 0;
        }
        if (row < 100) {
            return 1;
        }
        return row < 10000 ? 2 : 3;
    }

    /** In how many orders just these are ahead of one that is not among them. */
    private int ordersWithAhead(int ahead) {
        int many = Integer.bitCount(ahead);
        return factorial(many) * factorial(court.people - 1 - many);
    }

    /** Whether one that chose so (1: it swears) has no more by the other choice alone. */
    private boolean isContent(int person, int other, int matter, int own, int others) {
        return gainOf(person, other, matter, own, others) >= gainOf(person, other, matter, 1 - own, others);
    }

    private int gainOf(int person, int other, int matter, int own, int others) {
        if (own == 0) {
            return 0;
        }
        if (others == 0) {
            return -1;
        }
        if (!court.areCouple(person, other, matter)) {
            return -2;
        }
        return court.kindOf(person) == LIAR ? 4 : 3;
    }

    private static int factorial(int n) {
        int product = 1;
        for (int k = 2; k <= n; k++) {
            product *= k;
        }
        return product;
    }

    private static int power(int base, int times) {
        int product = 1;
        for (int k = 0; k < times; k++) {
            product *= base;
        }
        return product;
    }

    private static int inLeastTerms(int above, int below, boolean upper) {
        int common = below;
        int rest = above;
        for (int turn = 0; turn < MOST_TURNS && rest != 0; turn++) {
            int left = common % rest;
            common = rest;
            rest = left;
        }
        int told = upper ? above : below;
        return common == 0 ? told : told / common;
    }

    /** THE TEXT. */
    private static final class Scroll {
        final int[] letters = new int[MOST_LETTERS];
        int length;

        boolean add(int letter) {
            if (length < 0 || length >= letters.length) {
                return false;
            }
            letters[length] = letter;
            length++;
            return true;
        }

        /** Makes the court anew as far as the text can be one: the place of the fault, or NONE. */
        int readInto(Court court) {
            court.clear();
            if (length < 1 || letters[0] != 'O') {
                return 0;
            }
            int part = 0;
            int first = 0;
            for (int at = 1; at < length && at < letters.length; at++) {
                int letter = letters[at];
                int place = (at - 1) % 3;
                if (place == 0) {
                    if (!court.canBegin(letter)) {
                        return at;
                    }
                    part = letter;
                } else if (place == 1) {
                    first = letter - '0';
                    if (!court.canGoOn(part, first)) {
                        return at;
                    }
                } else if (!court.takesPart(part, first, letter - '0')) {
                    return at;
                }
            }
            return length % 3 == 1 ? NONE : length;
        }
    }

    /** People and matters as they stand: what acts change and slots keep. */
    private static final class Court {
        int people;
        int matters;
        // Sets of people, a bit for each; of the three kinds nobody is in two.
        int rightEyed;
        int liars;
        int children;
        int saints;
        // For each matter: who saw it (bits), its halves, as what it is known.
        final int[] witnesses = new int[MOST_MATTERS];
        final int[] lefts = new int[MOST_MATTERS];
        final int[] rights = new int[MOST_MATTERS];
        final int[] known = new int[MOST_MATTERS];
        final int[] fines = new int[MOST_PEOPLE];

        void clear() {
            people = 0;
            matters = 0;
            rightEyed = 0;
            liars = 0;
            children = 0;
            saints = 0;
        }

        void become(Court other) {
            people = other.people;
            matters = other.matters;
            rightEyed = other.rightEyed;
            liars = other.liars;
            children = other.children;
            saints = other.saints;
            for (int matter = 0; matter < MOST_MATTERS; matter++) {
                witnesses[matter] = other.witnesses[matter];
                lefts[matter] = other.lefts[matter];
                rights[matter] = other.rights[matter];
                known[matter] = other.known[matter];
            }
            for (int person = 0; person < MOST_PEOPLE; person++) {
                fines[person] = other.fines[person];
            }
        }

        // ---- how a text makes it

        boolean canBegin(int part) {
            switch (part) {
                case 'P':
                    return people < MOST_PEOPLE;
                case 'M':
                    return matters < MOST_MATTERS;
                case 'S':
                    return canAnybodySee();
                default:
                    return false;
            }
        }

        boolean canGoOn(int part, int first) {
            switch (part) {
                case 'P':
                    return first == 0 || first == 1;
                case 'M':
                    return isFigure(first);
                case 'S':
                    return canSeeMore(first);
                default:
                    return false;
            }
        }

        /** Adds a part that began well; false, with nothing added: it can not end so. */
        boolean takesPart(int part, int first, int second) {
            switch (part) {
                case 'P':
                    return second >= PLAIN && second <= SAINT && addPerson(first, second);
                case 'M':
                    return isFigure(second) && addMatter(first, second);
                case 'S':
                    if (!canSee(first, second)) {
                        return false;
                    }
                    letSee(first, second);
                    return true;
                default:
                    return false;
            }
        }

        boolean addPerson(int eye, int kind) {
            if (people < 0 || people >= MOST_PEOPLE) {
                return false;
            }
            int bit = 1 << people;
            if (eye == RIGHT) {
                rightEyed |= bit;
            }
            setKind(bit, kind);
            fines[people] = 0;
            people++;
            return true;
        }

        boolean addMatter(int left, int right) {
            if (matters < 0 || matters >= MOST_MATTERS) {
                return false;
            }
            witnesses[matters] = 0;
            lefts[matters] = left;
            rights[matters] = right;
            known[matters] = NONE;
            matters++;
            return true;
        }

        static boolean isFigure(int figure) {
            return figure >= 0 && figure <= 9;
        }

        boolean canAnybodySee() {
            for (int person = 0; person < people; person++) {
                if (canSeeMore(person)) {
                    return true;
                }
            }
            return false;
        }

        /** Whether there is such a person, and a matter that it did not see. */
        boolean canSeeMore(int person) {
            for (int matter = 0; matter < matters; matter++) {
                if (canSee(person, matter)) {
                    return true;
                }
            }
            return false;
        }

        // ---- what it holds

        boolean isPerson(int person) {
            return person >= 0 && person < people && person < MOST_PEOPLE;
        }

        boolean isMatter(int matter) {
            return matter >= 0 && matter < matters && matter < MOST_MATTERS;
        }

        int everybody() {
            return (1 << people) - 1;
        }

        int eyeOf(int person) {
            return rightEyed >> person & 1;
        }

        int kindOf(int person) {
            int bit = 1 << person;
            if ((liars & bit) != 0) {
                return LIAR;
            }
            if ((children & bit) != 0) {
                return CHILD;
            }
            return (saints & bit) != 0 ? SAINT : PLAIN;
        }

        void setKind(int bit, int kind) {
            liars = kind == LIAR ? liars | bit : liars & ~bit;
            children = kind == CHILD ? children | bit : children & ~bit;
            saints = kind == SAINT ? saints | bit : saints & ~bit;
        }

        int seenBy(int person) {
            int bits = 0;
            for (int matter = 0; matter < matters; matter++) {
                bits |= (witnessesOf(matter) >> person & 1) << matter;
            }
            return bits;
        }

        int finesOf(int person) {
            return isPerson(person) ? fines[person] : 0;
        }

        int allFines() {
            int sum = 0;
            for (int person = 0; person < people; person++) {
                sum += finesOf(person);
            }
            return sum;
        }

        int halfOf(int matter, int half) {
            if (!isMatter(matter)) {
                return NONE;
            }
            return half == LEFT ? lefts[matter] : rights[matter];
        }

        int knownAs(int matter) {
            return isMatter(matter) ? known[matter] : NONE;
        }

        int knownMatters() {
            int bits = 0;
            for (int matter = 0; matter < matters; matter++) {
                if (knownAs(matter) != NONE) {
                    bits |= 1 << matter;
                }
            }
            return bits;
        }

        int rightlyKnownMatters() {
            int bits = 0;
            for (int matter = 0; matter < matters; matter++) {
                if (knownAs(matter) == asItIs(matter)) {
                    bits |= 1 << matter;
                }
            }
            return bits;
        }

        int asItIs(int matter) {
            return 10 * halfOf(matter, LEFT) + halfOf(matter, RIGHT);
        }

        int witnessesOf(int matter) {
            return isMatter(matter) ? witnesses[matter] : 0;
        }

        int seersOf(int matter, int half) {
            if (!isMatter(matter)) {
                return 0;
            }
            int eyed = half == LEFT ? ~rightEyed : rightEyed;
            return witnesses[matter] & (eyed | children) & ~saints;
        }

        int saidBy(int person, int matter, int half) {
            if ((seersOf(matter, half) >> person & 1) == 0) {
                return NONE;
            }
            int is = halfOf(matter, half);
            return kindOf(person) == LIAR ? 9 - is : is;
        }

        /** As what a couple makes it known. */
        int toldBy(int i, int o, int matter) {
            return 10 * saidBy(i, matter, LEFT) + saidBy(o, matter, RIGHT);
        }

        // ---- couples

        boolean isCouple(int i, int o, int matter) {
            return i != o && isPerson(i) && isPerson(o)
                    && (seersOf(matter, LEFT) >> i & 1) == 1 && (seersOf(matter, RIGHT) >> o & 1) == 1;
        }

        boolean areCouple(int one, int other, int matter) {
            return isCouple(one, other, matter) || isCouple(other, one, matter);
        }

        boolean areCoupleForSome(int one, int other) {
            for (int matter = 0; matter < matters; matter++) {
                if (isCouple(one, other, matter) || isCouple(other, one, matter)) {
                    return true;
                }
            }
            return false;
        }

        int couplesOf(int matter, boolean rightly) {
            int many = 0;
            for (int i = 0; i < people; i++) {
                for (int o = 0; o < people; o++) {
                    if (isCouple(i, o, matter) && (!rightly || toldBy(i, o, matter) == asItIs(matter))) {
                        many++;
                    }
                }
            }
            return many;
        }

        int firstCoupleOf(int matter) {
            for (int i = 0; i < people; i++) {
                for (int o = 0; o < people; o++) {
                    if (isCouple(i, o, matter)) {
                        return 10 * i + o;
                    }
                }
            }
            return NONE;
        }

        boolean hasCoupleAmong(int matter, int set) {
            int left = seersOf(matter, LEFT) & set;
            int right = seersOf(matter, RIGHT) & set;
            // One that sees both halves is no couple alone.
            return left != 0 && right != 0 && Integer.bitCount(left | right) > 1;
        }

        /** Matters (bits) for which there is a couple in the set. */
        int knowableAmong(int set) {
            int bits = 0;
            for (int matter = 0; matter < matters; matter++) {
                if (hasCoupleAmong(matter, set)) {
                    bits |= 1 << matter;
                }
            }
            return bits;
        }

        // ---- acts upon it

        boolean canSee(int person, int matter) {
            return isPerson(person) && isMatter(matter) && (witnesses[matter] >> person & 1) == 0;
        }

        void letSee(int person, int matter) {
            if (isMatter(matter)) {
                witnesses[matter] |= 1 << person;
            }
        }

        void letUnsee(int person, int matter) {
            if (isMatter(matter)) {
                witnesses[matter] &= ~(1 << person);
            }
        }

        boolean canLearn(int i, int o, int matter) {
            return isMatter(matter) && knownAs(matter) == NONE && isCouple(i, o, matter);
        }

        void setKnown(int matter, int value) {
            if (isMatter(matter)) {
                known[matter] = value;
            }
        }

        boolean canLoseGlass(int person) {
            return isPerson(person) && kindOf(person) != SAINT;
        }

        void loseGlass(int person) {
            int bit = 1 << person;
            if (kindOf(person) == CHILD) {
                setKind(bit, PLAIN);
            } else {
                rightEyed ^= bit;
            }
            fine(person, 1);
        }

        /** Undoes a lost glass of one that was of that kind. */
        void regainGlass(int person, int kind) {
            int bit = 1 << person;
            if (kind == CHILD) {
                setKind(bit, CHILD);
            } else {
                rightEyed ^= bit;
            }
            fine(person, -1);
        }

        void fine(int person, int more) {
            if (isPerson(person)) {
                fines[person] += more;
            }
        }

        // ---- told doings, years

        /** Does what three figures tell; false, with nothing changed: it can not be. */
        boolean doneAsTold(int figures) {
            int first = figures / 100;
            int second = figures / 10 % 10;
            int third = figures % 10;
            if (first == SHOWN) {
                return seesNow(second, third);
            }
            if (first == DENIED) {
                return second == 0 && isForgotten(third);
            }
            if (first == DROPPED) {
                return second == 0 && losesGlass(third);
            }
            return isLearnt(second, third, first - SWORN);
        }

        boolean seesNow(int person, int matter) {
            boolean can = canSee(person, matter);
            if (can) {
                letSee(person, matter);
            }
            return can;
        }

        boolean isForgotten(int matter) {
            boolean can = knownAs(matter) != NONE;
            if (can) {
                setKnown(matter, NONE);
            }
            return can;
        }

        boolean losesGlass(int person) {
            boolean can = canLoseGlass(person);
            if (can) {
                loseGlass(person);
            }
            return can;
        }

        boolean isLearnt(int i, int o, int matter) {
            boolean can = canLearn(i, o, matter);
            if (can) {
                setKnown(matter, toldBy(i, o, matter));
            }
            return can;
        }

        /** What chance (0 to 29) brings, if it can be. */
        void passYear(int chance) {
            if (chance < 24) {
                seesNow(chance / 4, chance % 4);
            } else {
                losesGlass(chance - 24);
            }
        }
    }

    /** THE ROW of ACTS: what each was, upon whom or what, and what undoing it needs besides. */
    private static final class ActRow {
        final int[] whats = new int[MOST_ACTS];
        final int[] subjects = new int[MOST_ACTS];
        final int[] besides = new int[MOST_ACTS];
        int size;

        void add(int what, int subject, int beside) {
            if (size >= MOST_ACTS) {
                forgetFirst();
            }
            if (size >= 0 && size < MOST_ACTS) {
                whats[size] = what;
                subjects[size] = subject;
                besides[size] = beside;
                size++;
            }
        }

        void forgetFirst() {
            for (int at = 1; at < MOST_ACTS; at++) {
                whats[at - 1] = whats[at];
                subjects[at - 1] = subjects[at];
                besides[at - 1] = besides[at];
            }
            size = MOST_ACTS - 1;
        }

        void takeBackLast(Court court) {
            if (size < 1 || size > MOST_ACTS) {
                return;
            }
            size--;
            int subject = subjects[size];
            int beside = besides[size];
            if (whats[size] == SHOWN) {
                court.letUnsee(subject, beside);
            } else if (whats[size] == DROPPED) {
                court.regainGlass(subject, beside);
            } else {
                // Sworn or denied: as what it was known ahead of that.
                court.setKnown(subject, beside);
            }
        }
    }

    /** HEARD: what somebody said, by the matter's number, whatever court there is. */
    private static final class Hearsay {
        final int[] matters = new int[MOST_HEARD];
        final int[] halves = new int[MOST_HEARD];
        final int[] saids = new int[MOST_HEARD];
        int size;

        boolean add(int matter, int half, int said) {
            if (size < 0 || size >= MOST_HEARD) {
                return false;
            }
            matters[size] = matter;
            halves[size] = half;
            saids[size] = said;
            size++;
            return true;
        }

        /** Whether the half may be v, with so many lies about it at most. */
        boolean allows(int matter, int half, int v, int lies) {
            int told = 0;
            for (int at = 0; at < size && at < MOST_HEARD; at++) {
                if (matters[at] == matter && halves[at] == half && saids[at] != v) {
                    if (saids[at] != 9 - v) {
                        return false;
                    }
                    told++;
                }
            }
            return told <= lies;
        }
    }
}
