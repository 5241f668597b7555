/** Promises 1 to 8, sentence by sentence: what is too small, too large, empty, full. */
public final class EdgesTextTest {
    private static final Due DUE = new Due();
    private static final String FIGURES = "0123456789";
    // Six people and four matters; with five sightings 46 letters.
    private static final String MOST = "OP00P10P02P12P01P11M00M11M22M33";

    public static void main(String[] args) throws Exception {
        nobodyNothing();
        callsOfOneObject();
        lettersThatCome();
        textThatIsFull();
        wiping();
        emptyText();
        textThatStopsInAPart();
        firstOfTwoFaults();
        lettersAtEachPlace();
        lettersOfSightings();
        mostPeople();
        mostMatters();
        eachTwoOnce();
        lengthSetAside();
        noFault();
        courtOfAFault();
        tensAndOnes();
        madeAnew();
        nothingOfEarlierOnes();
        whatStays();
        numberedAsTold();
        personWhats();
        personRefused();
        matterWhats();
        matterRefused();
        sayings();
        sayingsRefused();
        DUE.quoted(1, 8, args);
        DUE.end();
    }

    // ---- promise 1

    private static void nobodyNothing() {
        DUE.sentence(1, "At first there is nobody, nothing.");
        HalfTruths x = new HalfTruths();
        for (int what = 0; what <= 8; what++) {
            DUE.is("count " + what, x.count(what), 0);
        }
        for (int k = 0; k < 6; k++) {
            DUE.is("person " + k, x.person(k, 0), HalfTruths.UNKNOWN);
            DUE.is("share " + k, x.share(k, true), HalfTruths.UNKNOWN);
            DUE.is("matter " + k, x.matter(k, 0), HalfTruths.UNKNOWN);
            DUE.is("values " + k, x.values(k, 0, 0), HalfTruths.UNKNOWN);
        }
        DUE.is("wipe", x.wipe(), 0);
        DUE.is("unhear", x.unhear(), 0);
        DUE.is("undo", x.undo(), HalfTruths.STATE);
        DUE.is("slot 0", x.again(0), HalfTruths.STATE);
        DUE.is("slot 1", x.again(1), HalfTruths.STATE);
        DUE.is("cover", x.cover(), 0);
        DUE.is("match", x.match(true), 0);
        DUE.is("judge", x.judge(3, 0), 0);
        DUE.is("seed", x.seed(0), 0);
    }

    private static void callsOfOneObject() {
        DUE.sentence(1, "An object is used for at most 512 calls after it has been made");
        HalfTruths x = new HalfTruths();
        for (int call = 1; call <= 510; call++) {
            if (call % 49 == 0) {
                DUE.is("call " + call, x.wipe(), 48);
            } else {
                DUE.is("call " + call, x.write('O'), call % 49);
            }
        }
        DUE.is("call 511", x.count(0), 20);
        DUE.is("call 512", x.wipe(), 20);
    }

    // ---- promises 2, 3

    private static void lettersThatCome() {
        DUE.sentence(2, "A letter (0 to 255) comes behind THE TEXT: how long it is.");
        HalfTruths x = new HalfTruths();
        for (int letter = 0; letter <= 255; letter++) {
            if (letter % 48 == 0) {
                x.wipe();
            }
            DUE.is("letter " + letter, x.write(letter), letter % 48 + 1);
        }
        HalfTruths y = Due.write(new HalfTruths(), "O");
        y.write('P');
        DUE.is("it comes behind", y.fault(), 2);
        DUE.sentence(2, "OUTSIDE");
        int[] none = {-1, -256, 256, 256 + 'O', 65536 + 'O', Integer.MIN_VALUE, Integer.MAX_VALUE};
        for (int letter : none) {
            DUE.is("letter " + letter, new HalfTruths().write(letter), HalfTruths.OUTSIDE);
            DUE.is("letter " + letter + " behind some", y.write(letter), HalfTruths.OUTSIDE);
            DUE.is("it did not come", y.count(0), 2);
        }
    }

    private static void textThatIsFull() {
        DUE.sentence(2, "FULL: there are 48.");
        HalfTruths x = Due.write(new HalfTruths(), MOST + "S00S10S20S30S40");
        DUE.is("47th", x.write('S'), 47);
        DUE.is("48th", x.write('5'), 48);
        DUE.is("49th", x.write('0'), HalfTruths.FULL);
        DUE.is("lowest one", x.write(0), HalfTruths.FULL);
        DUE.is("highest one", x.write(255), HalfTruths.FULL);
        DUE.is("no letter", x.write(256), HalfTruths.OUTSIDE);
        DUE.is("no letter", x.write(-1), HalfTruths.OUTSIDE);
        DUE.is("there are 48 still", x.count(0), 48);
        DUE.is("the last one stays", x.fault(), 48);
    }

    private static void wiping() {
        DUE.sentence(3, "THE TEXT is empty: how long it was.");
        for (int length = 0; length <= 48; length++) {
            HalfTruths x = new HalfTruths();
            for (int k = 0; k < length; k++) {
                x.write('O');
            }
            DUE.is("of " + length, x.wipe(), length);
            DUE.is("it is empty", x.count(0), 0);
            DUE.is("it was empty", x.wipe(), 0);
            DUE.is("the first one again", x.write('P'), 1);
            DUE.is("and no other ahead", x.fault(), 0);
        }
        HalfTruths y = new HalfTruths();
        for (int k = 0; k < 50; k++) {
            y.write('O');
        }
        DUE.is("what was refused has no length", y.wipe(), 48);
    }

    // ---- promise 4

    private static void fault(String text, int want) {
        HalfTruths x = Due.write(new HalfTruths(), text);
        DUE.is(text, x.fault(), want);
        DUE.is(text + ", asked again", x.fault(), want);
        DUE.is(text + " stays", x.count(0), text.length());
        int made = x.court();
        DUE.is(text + " as a court", made == HalfTruths.STATE ? 0 : 1, want == HalfTruths.NONE ? 1 : 0);
    }

    private static void emptyText() {
        DUE.sentence(4, "its length, if it is only not at its end");
        fault("", 0);
        HalfTruths x = Due.write(new HalfTruths(), "OP00");
        x.wipe();
        DUE.is("wiped", x.fault(), 0);
    }

    private static void textThatStopsInAPart() {
        DUE.sentence(4, "its length, if it is only not at its end");
        fault("OP", 2);
        fault("OP1", 3);
        fault("OM", 2);
        fault("OM9", 3);
        fault("OP00P", 5);
        fault("OP00P1", 6);
        fault("OP00M00S", 8);
        fault("OP00M00S0", 9);
        fault(MOST + "S", 32);
        fault(MOST + "S5", 33);
        fault("OP00P10P02P12P01P", 17);
        fault("OM00M11M22M", 11);
    }

    private static void firstOfTwoFaults() {
        DUE.sentence(4, "FAULT: the place (from 0 on) of the first letter by which THE TEXT can be no COURT, "
                + "whatever came behind it");
        fault("X", 0);
        fault("XX", 0);
        fault("XOP00", 0);
        fault(" O", 0);
        fault("P00M00", 0);
        fault("OXX", 1);
        fault("OP9X", 2);
        fault("OP0XM", 3);
        fault("OPX0", 2);
        fault("OSP00M00S00", 1);
        fault("OP00S00M00", 4);
        fault("OP00M00S01M11", 9);
        fault("OP00M00S10P00", 8);
        HalfTruths x = Due.write(new HalfTruths(), "OP0");
        DUE.is("not yet one", x.fault(), 3);
        x.write('4');
        DUE.is("then one", x.fault(), 3);
        x.write('0');
        DUE.is("it stays", x.fault(), 3);
    }

    /** By each of 256 letters behind a beginning: just those told go on. */
    private static void goesOn(String beginning, String letters) {
        for (int letter = 0; letter <= 255; letter++) {
            HalfTruths x = Due.write(new HalfTruths(), beginning);
            x.write(letter);
            int length = beginning.length() + 1;
            int due = length % 3 == 1 ? HalfTruths.NONE : length;
            DUE.is(beginning + " and " + letter, x.fault(), letters.indexOf(letter) >= 0 ? due : length - 1);
        }
    }

    private static void lettersAtEachPlace() {
        DUE.sentence(4, "A COURT is a TEXT: O, then PARTS, none or more");
        goesOn("", "O");
        goesOn("O", "PM");
        goesOn("OP00", "PM");
        goesOn("OM00", "PM");
        goesOn("OP00M00", "PMS");
        DUE.sentence(4, "a PERSON of EYE e (0 left, 1 right), of KIND k: 0 PLAIN, 1 LIAR, 2 CHILD, 3 SAINT");
        goesOn("OP", "01");
        goesOn("OP0", "0123");
        goesOn("OP1", "0123");
        goesOn("OP03P", "01");
        goesOn("OP03P1", "0123");
        DUE.sentence(4, "a MATTER whose left HALF is l, whose right HALF is r (0 to 9 each)");
        goesOn("OM", FIGURES);
        goesOn("OM0", FIGURES);
        goesOn("OM9", FIGURES);
    }

    private static void lettersOfSightings() {
        DUE.sentence(4, "PERSON i saw MATTER j (both told ahead; each two once)");
        goesOn("OP00M00S", "0");
        goesOn("OP00M00S0", "0");
        goesOn("OP00P00M00S", "01");
        goesOn("OP00M00M00S0", "01");
        goesOn("OM00P00", "PMS");
        goesOn("OM00M00P00S", "0");
        goesOn(MOST + "S", "012345");
        goesOn(MOST + "S5", "0123");
        DUE.sentence(4, "(an S, a PERSON of it, too, for which no MATTER is left that it did not see; "
                + "its length set aside)");
        goesOn("OP00M00S00", "PM");
        goesOn("OP00P00M00S00", "PMS");
        goesOn("OP00P00M00S00S", "1");
        goesOn("OP00P00M00S00S10", "PM");
        goesOn("OP00P00M00M00S10S", "01");
        goesOn("OP00P00M00M00S10S1", "1");
        goesOn("OP00P00M00M00S11S1", "0");
        goesOn("OP00P00M00M00S10S11S", "0");
        goesOn("OP00M00S00P00S", "1");
        goesOn("OP00M00S00M00S", "0");
        goesOn("OP00M00S00M00S0", "1");
        goesOn("OP03M00S", "0");
        goesOn("OP03M00S00", "PM");
        goesOn("OP00P00P00P00P00P00M00S00S10S20S30S40S50", "M");
        goesOn("OP00M00M00M00M00S00S01S02S03", "P");
    }

    private static void mostPeople() {
        DUE.sentence(4, "PEOPLE (6 at most)");
        fault("OP00P00P00P00P00", HalfTruths.NONE);
        fault("OP00P00P00P00P00P00", HalfTruths.NONE);
        fault("OP00P00P00P00P00P00P", 19);
        fault("OP00P00P00P00P00P00P00", 19);
        fault("OP00M00P00P00P00P00P00S00P", 25);
        goesOn("OP00P00P00P00P00P00", "M");
        goesOn("OP00P00P00P00P00", "PM");
        goesOn(MOST, "S");
        DUE.is("six", Due.court("OP00P00P00P00P00P00").count(1), 6);
    }

    private static void mostMatters() {
        DUE.sentence(4, "MATTERS (4 at most)");
        fault("OM00M00M00", HalfTruths.NONE);
        fault("OM00M00M00M00", HalfTruths.NONE);
        fault("OM00M00M00M00M", 13);
        fault("OM00M00M00M00M00", 13);
        fault("OM00P00M00M00S02M00M", 19);
        goesOn("OM00M00M00M00", "P");
        goesOn("OM00M00M00", "PM");
        DUE.is("four", Due.court("OM00M00M00M00").count(2), 4);
    }

    private static void eachTwoOnce() {
        DUE.sentence(4, "each two once");
        fault("OP00M00M00S00S00", 15);
        fault("OP00M00M00S00S01S0", 16);
        fault("OP00P00M00S00S10", HalfTruths.NONE);
        fault("OP00P00M00M00S00S11S01S10", HalfTruths.NONE);
        fault("OP00P00M00M00S00S11S01S10S", 25);
        fault("OP00P00M00M00S00S11S01S01", 23);
    }

    private static void lengthSetAside() {
        DUE.sentence(4, "its length set aside");
        String five = MOST + "S00S10S20S30S40";
        fault(five, HalfTruths.NONE);
        fault(five + "S", 47);
        fault(five + "S5", 48);
        fault(five + "S0", 48);
        fault(five + "S6", 47);
        fault(five + "P5", 46);
        fault(five + "M", 46);
        String four = "OP00M00M00M00M00S00S01S02S03P00P00P00P00P00S10";
        fault(four + "S1", 48);
        fault(four + "S0", 47);
        fault(four + "P0", 46);
    }

    private static void noFault() {
        DUE.sentence(4, "NONE: none.");
        fault("O", HalfTruths.NONE);
        fault("OP00", HalfTruths.NONE);
        fault("OM99", HalfTruths.NONE);
        fault("OP13M00S00", HalfTruths.NONE);
        fault(MOST, HalfTruths.NONE);
        DUE.is("that is -9", Due.write(new HalfTruths(), "O").fault(), -9);
    }

    // ---- promise 5

    private static void courtOfAFault() {
        DUE.sentence(5, "STATE: a FAULT.");
        String[] faults = {"", "X", "OO", "OP", "OP0", "OP2", "OP04", "OM", "OM0", "OS", "OP00M00S", "OP00M00S0",
            "OP00M00S00S", "OP00M00S1", "OP00M00S01", "OM00M00M00M00M00", "OP00P00P00P00P00P00P00"};
        for (String text : faults) {
            HalfTruths x = Due.court("OP12M45S00");
            x.drop(0);
            DUE.is(text, Due.anew(x, text), HalfTruths.STATE);
            DUE.is(text + ": people as they were", x.count(1), 1);
            DUE.is(text + ": matters as they were", x.matter(0, 0), 4);
            DUE.is(text + ": fines as they were", x.person(0, 3), 1);
            DUE.is(text + ": the row as it was", x.undo(), 0);
            DUE.is(text + ": the kind as it was", x.person(0, 1), 2);
            DUE.is(text + ": the text stays", x.count(0), text.length());
        }
    }

    private static void tensAndOnes() {
        DUE.sentence(5, "10 times PEOPLE, and MATTERS.");
        HalfTruths x = new HalfTruths();
        for (int people = 0; people <= 6; people++) {
            for (int matters = 0; matters <= 4; matters++) {
                String text = "O" + "P00".repeat(people) + "M00".repeat(matters);
                x = matters % 2 == 0 ? new HalfTruths() : x;
                DUE.is(text, Due.anew(x, text), 10 * people + matters);
                DUE.is(text + " people", x.count(1), people);
                DUE.is(text + " matters", x.count(2), matters);
            }
        }
        DUE.is("48 letters can be none, 46 can", Due.anew(x, MOST + "S00S10S20S30S40"), 64);
    }

    private static void madeAnew() {
        DUE.sentence(5, "Nothing is KNOWN, nobody is FINED, when THE COURT is made anew.");
        HalfTruths x = Due.court("OP00P10M45S00S10");
        x.swear(0, 1, 0);
        x.drop(0);
        DUE.is("by the same text", x.court(), 21);
        DUE.is("not known", x.matter(0, 2), HalfTruths.NONE);
        DUE.is("none known", x.count(4), 0);
        DUE.is("not fined", x.person(0, 3), 0);
        DUE.is("none fined", x.count(6), 0);
        DUE.is("eye as told", x.person(0, 0), 0);
        DUE.sentence(5, "(THE ROW of ACTS is empty, what was kept is gone; HEARD, THE SEED stay)");
        DUE.is("empty already", x.undo(), HalfTruths.STATE);
        x.keep(1);
        x.drop(1);
        DUE.is("made", x.court(), 21);
        DUE.is("row", x.count(7), 0);
        DUE.is("none to undo", x.undo(), HalfTruths.STATE);
        DUE.is("kept ones", x.again(1), HalfTruths.STATE);
    }

    /** Whatever stood, was tried or could not be read ahead of it. */
    private static void nothingOfEarlierOnes() {
        DUE.sentence(5, "THE TEXT (that stays as it is) is THE COURT");
        HalfTruths x = Due.court("OP10P11P12P13P10P11M99M88S00S10S20S51");
        for (int p = 0; p < 3; p++) {
            x.drop(p);
        }
        x.drop(4);
        DUE.is("all three can be", x.judge(3, 300301304), HalfTruths.NONE);
        x.years(30);
        DUE.is("a fault", Due.anew(x, "OP13P12P11P10M77S00X"), HalfTruths.STATE);
        DUE.is("one that can be", Due.anew(x, "OP00P01P02P03P00P02M10M20"), 62);
        int[] kinds = {0, 1, 2, 3, 0, 2};
        for (int p = 0; p < 6; p++) {
            DUE.is("eye " + p, x.person(p, 0), 0);
            DUE.is("kind " + p, x.person(p, 1), kinds[p]);
            DUE.is("saw " + p, x.person(p, 2), 0);
            DUE.is("fines " + p, x.person(p, 3), 0);
        }
        for (int m = 0; m < 2; m++) {
            DUE.is("left " + m, x.matter(m, 0), m + 1);
            DUE.is("right " + m, x.matter(m, 1), 0);
            DUE.is("known " + m, x.matter(m, 2), HalfTruths.NONE);
            DUE.is("seen " + m, x.matter(m, 3) + x.matter(m, 4), 0);
        }
    }

    private static void whatStays() {
        DUE.sentence(5, "(THE ROW of ACTS is empty, what was kept is gone; HEARD, THE SEED stay)");
        HalfTruths x = Due.court("OM45");
        for (int k = 0; k < 6; k++) {
            x.hear(0, 1, 7);
        }
        x.seed(Long.MIN_VALUE);
        DUE.is("of nobody", Due.anew(x, "O"), 0);
        DUE.is("six are heard", x.count(8), 6);
        DUE.is("of as many", Due.anew(x, "OM00"), 1);
        DUE.is("six are heard", x.hear(0, 0, 0), HalfTruths.FULL);
        DUE.is("what was heard", x.values(0, 1, 0), 1 << 7);
        DUE.is("seed", x.seed(0), Long.MIN_VALUE);
        DUE.sentence(5, "THE TEXT (that stays as it is) is THE COURT");
        DUE.is("text", x.count(0), 4);
        DUE.is("as it is", x.fault(), HalfTruths.NONE);
        x.write('P');
        DUE.is("letters come behind it", x.fault(), 5);
        DUE.is("the court is another thing", x.count(1), 0);
        x.wipe();
        DUE.is("the court is another thing", x.count(2), 1);
    }

    private static void numberedAsTold() {
        DUE.sentence(5, "are numbered as they are told, each for itself");
        HalfTruths x = Due.court("OM12P13M34P02S10M56P01S02M78P10S33P11P00S53");
        int[] eyes = {1, 0, 0, 1, 1, 0};
        int[] kinds = {3, 2, 1, 0, 1, 0};
        int[] saw = {4, 1, 0, 8, 0, 8};
        for (int p = 0; p < 6; p++) {
            DUE.is("eye " + p, x.person(p, 0), eyes[p]);
            DUE.is("kind " + p, x.person(p, 1), kinds[p]);
            DUE.is("saw " + p, x.person(p, 2), saw[p]);
        }
        for (int m = 0; m < 4; m++) {
            DUE.is("left " + m, x.matter(m, 0), 2 * m + 1);
            DUE.is("right " + m, x.matter(m, 1), 2 * m + 2);
        }
    }

    // ---- promises 6, 7

    private static void personWhats() {
        DUE.sentence(6, "Of a PERSON its EYE (what = 0), KIND (1), MATTERS that it saw (2: bits), FINES (3).");
        for (int eye = 0; eye <= 1; eye++) {
            for (int kind = 0; kind <= 3; kind++) {
                HalfTruths x = Due.court("OP03P03P03P03P03P" + eye + kind);
                DUE.is("eye", x.person(5, 0), eye);
                DUE.is("kind", x.person(5, 1), kind);
                DUE.is("saw nothing", x.person(5, 2), 0);
                DUE.is("no fines", x.person(5, 3), 0);
            }
        }
        HalfTruths all = Due.court("OP00P00M00M00M00M00S03S00S02S01");
        DUE.is("saw all", all.person(0, 2), 15);
        DUE.is("saw none", all.person(1, 2), 0);
        for (int fine = 1; fine <= 300; fine++) {
            all.drop(1);
        }
        DUE.is("many fines", all.person(1, 3), 300);
        DUE.is("of the other none", all.person(0, 3), 0);
        DUE.is("fines of all", all.count(6), 300);
    }

    private static void personRefused() {
        HalfTruths x = Due.court("OP00P10P02P13P01P11M00");
        HalfTruths one = Due.court("OP00M00M00M00M00");
        DUE.sentence(6, "UNKNOWN; OUTSIDE.");
        for (int what = 0; what <= 3; what++) {
            DUE.is("the last one " + what, x.person(5, what) >= 0 ? 1 : 0, 1);
            DUE.is("the seventh " + what, x.person(6, what), HalfTruths.UNKNOWN);
            DUE.is("below " + what, x.person(-1, what), HalfTruths.UNKNOWN);
            DUE.is("the second of one " + what, one.person(1, what), HalfTruths.UNKNOWN);
        }
        DUE.is("what too low", x.person(5, -1), HalfTruths.OUTSIDE);
        DUE.is("what too high", x.person(5, 4), HalfTruths.OUTSIDE);
        DUE.is("both: UNKNOWN", x.person(6, 4), HalfTruths.UNKNOWN);
        DUE.is("both: UNKNOWN", x.person(-1, -1), HalfTruths.UNKNOWN);
    }

    private static void matterWhats() {
        DUE.sentence(7, "Of a MATTER its left HALF (what = 0), its right one (1), as what it is KNOWN (2; NONE), "
                + "PEOPLE that see its left HALF (3: bits), its right one (4: bits).");
        for (int half = 0; half <= 9; half++) {
            HalfTruths x = Due.court("OM00M00M00M" + half + (9 - half));
            DUE.is("left", x.matter(3, 0), half);
            DUE.is("right", x.matter(3, 1), 9 - half);
            DUE.is("known", x.matter(3, 2), HalfTruths.NONE);
            DUE.is("nobody left", x.matter(3, 3), 0);
            DUE.is("nobody right", x.matter(3, 4), 0);
        }
        HalfTruths all = Due.court("OP02P02P02P12P12P12M00S00S10S20S30S40S50");
        DUE.is("children: all left", all.matter(0, 3), 63);
        DUE.is("children: all right", all.matter(0, 4), 63);
        all.swear(0, 5, 0);
        DUE.is("known as 0", all.matter(0, 2), 0);
        all.deny(0);
        DUE.is("known no more", all.matter(0, 2), HalfTruths.NONE);
        DUE.sentence(7, "that of its EYE (CHILD: both, SAINT: none)");
        HalfTruths kinds = Due.court("OP00P10P02P13P01P11M00S00S10S20S30S40S50");
        DUE.is("left", kinds.matter(0, 3), 1 + 4 + 16);
        DUE.is("right", kinds.matter(0, 4), 2 + 4 + 32);
        HalfTruths saints = Due.court("OP03P13M00S00S10");
        DUE.is("saints left", saints.matter(0, 3), 0);
        DUE.is("saints right", saints.matter(0, 4), 0);
    }

    private static void matterRefused() {
        HalfTruths x = Due.court("OM00M11M22M33P00P00P00P00P00P00");
        HalfTruths one = Due.court("OM00");
        DUE.sentence(7, "UNKNOWN; OUTSIDE.");
        for (int what = 0; what <= 4; what++) {
            DUE.is("the last one " + what, x.matter(3, what) != HalfTruths.UNKNOWN ? 1 : 0, 1);
            DUE.is("the fifth " + what, x.matter(4, what), HalfTruths.UNKNOWN);
            DUE.is("below " + what, x.matter(-1, what), HalfTruths.UNKNOWN);
            DUE.is("the second of one " + what, one.matter(1, what), HalfTruths.UNKNOWN);
        }
        DUE.is("what too low", x.matter(3, -1), HalfTruths.OUTSIDE);
        DUE.is("what too high", x.matter(3, 5), HalfTruths.OUTSIDE);
        DUE.is("both: UNKNOWN", x.matter(4, 5), HalfTruths.UNKNOWN);
        DUE.is("both: UNKNOWN", x.matter(-1, -1), HalfTruths.UNKNOWN);
    }

    // ---- promise 8

    private static void sayings() {
        int none = HalfTruths.NONE;
        for (int is = 0; is <= 9; is++) {
            HalfTruths x = Due.court("OP00P11P02P12P01P10M" + is + (9 - is) + "S00S10S20S30S40S50");
            DUE.sentence(8, "It says of a HALF what it is; a LIAR says 9 less that.");
            DUE.is("plain, left", x.says(0, 0, 0), is);
            DUE.is("plain, right", x.says(5, 0, 1), 9 - is);
            DUE.is("liar, left", x.says(4, 0, 0), 9 - is);
            DUE.is("liar, right", x.says(1, 0, 1), is);
            DUE.is("child, left", x.says(2, 0, 0), is);
            DUE.is("child, right", x.says(2, 0, 1), 9 - is);
            DUE.is("right child, left", x.says(3, 0, 0), is);
            DUE.is("right child, right", x.says(3, 0, 1), 9 - is);
            DUE.sentence(8, "NONE: it does not see it.");
            DUE.is("plain, the other one", x.says(0, 0, 1), none);
            DUE.is("plain, the other one", x.says(5, 0, 0), none);
            DUE.is("liar, the other one", x.says(4, 0, 1), none);
            DUE.is("liar, the other one", x.says(1, 0, 0), none);
        }
        HalfTruths y = Due.court("OP03P13P02P00P10M45M45S00S10S21");
        for (int half = 0; half <= 1; half++) {
            DUE.is("saint", y.says(0, 0, half), none);
            DUE.is("right saint", y.says(1, 0, half), none);
            DUE.is("a child that did not see it", y.says(2, 0, half), none);
            DUE.is("one that saw nothing", y.says(3, 0, half), none);
            DUE.is("one that saw nothing", y.says(4, 1, half), none);
        }
    }

    private static void sayingsRefused() {
        HalfTruths x = Due.court("OP00P03M45S00");
        DUE.sentence(8, "UNKNOWN: both; OUTSIDE: half (0, 1).");
        for (int half = -1; half <= 2; half++) {
            DUE.is("person", x.says(2, 0, half), HalfTruths.UNKNOWN);
            DUE.is("person", x.says(-1, 0, half), HalfTruths.UNKNOWN);
            DUE.is("matter", x.says(0, 1, half), HalfTruths.UNKNOWN);
            DUE.is("matter", x.says(0, -1, half), HalfTruths.UNKNOWN);
            DUE.is("both", x.says(2, 1, half), HalfTruths.UNKNOWN);
        }
        for (int person = 0; person <= 1; person++) {
            DUE.is("half too low", x.says(person, 0, -1), HalfTruths.OUTSIDE);
            DUE.is("half too high", x.says(person, 0, 2), HalfTruths.OUTSIDE);
        }
    }
}
