/** The edges of THE TEXT, what it tells, and promises 1 to 9: a test for each sentence. */
public final class TextEdgesTest {
    private static final int BAD = Edges.BAD, NO = Edges.NO, FULL = Edges.FULL, NONE = Edges.NONE;
    // Two PERSONS and two NAMES, 24 letters.
    private static final String TWO = "p0,1,9;p0,1,9;n3,1;n5,1;";
    private static final int BEHIND_TWO = 24;

    private TextEdgesTest() {
    }

    public static void main(String[] args) {
        all();
        Due.end("TextEdgesTest");
    }

    static void all() {
        lettersAtMost();
        itemsOneBehindTheOther();
        eachALetter();
        oneOrTwoFigures();
        partedByCommas();
        aSemicolonBehindTheLast();
        kinds();
        bedsTold();
        foodTold();
        personsAtMost();
        unkindTold();
        eatsTold();
        namesAtMost();
        wordOfAnother();
        wordOfPersonsToldAhead();
        wordByANameToldAhead();
        wordsAtMost();
        toldOnceMore();
        quarrelTold();
        quarrelWithout();
        quarrelOfSeveral();
        faultOfTheFirst();
        faultOfNothing();
        laidOfBoth();
        laidAtFirst();
        newObject();
        writtenLetters();
        writtenLength();
        writeBeforeFull();
        wiped();
        faultAsked();
        layHowMany();
        layAnew();
        layRefused();
        personWhat();
        personBeds();
        personLodgers();
        personHungry();
        nameWhat();
        stoutNone();
        callsAlike();
        suchAsThereAre();
    }

    private static void due(String what, long got, long want) {
        Due.due(what, got, want);
    }

    // ---- 1: THE TEXT

    private static void lettersAtMost() {
        Due.sentence("1: A TEXT is letters (200 at most)");
        String whole = "p0,2,6;n3,2;" + Edges.times("q12;", 46) + "q20;";
        LodgingNames x = Edges.written(whole);
        due("200 letters", x.count(10), 200);
        due("no fault in 200 letters", x.fault(), NONE);
        due("200 letters are laid", x.lay(), 1);
        due("the 200th counts", x.count(6), 20);
        LodgingNames y = Edges.written("p0,2,6;n3,2;" + Edges.times("q6;", 3) + Edges.times("q12;", 44) + "q20");
        due("a ; as the 201st", y.write(';'), FULL);
        due("is no letter of it", y.fault(), 197);
        due("200 letters all the same", y.count(10), 200);
        LodgingNames z = Edges.written(Edges.times("q12;", 49) + "q12");
        due("a ; as the 200th", z.write(';'), 200);
        due("is one", z.fault(), NONE);
    }

    private static void itemsOneBehindTheOther() {
        Due.sentence("1: ITEMS one behind the other");
        Edges.fault("q6;q7;", NONE);
        Edges.fault("n3,2;q6;p0,1,2;n4,4;p1,1,2;c0,1,1;q7;c1,0,0;p2,0,0;", NONE);
        Edges.fault(" q6;", 0);
        Edges.fault("q6; q7;", 3);
        Edges.fault("q6;q7; ", 6);
        Edges.fault("q6;;q7;", 3);
        Edges.fault(";q6;", 0);
        Edges.fault("q6,q7;", 0);
    }

    /** Each letter that there is with one number, two, three and none. */
    private static void eachALetter() {
        Due.sentence("1: ITEMS, each a letter, then numbers");
        String[] numbers = {"", "1", "1,0", "1,0,1", "1,0,1,0"};
        for (char letter = 32; letter <= 126; letter++) {
            int due = letter == 'q' ? 1 : letter == 'n' ? 2 : letter == 'p' || letter == 'c' ? 3 : -1;
            for (int many = 0; many < numbers.length; many++) {
                Edges.fault(TWO + letter + numbers[many] + ";", many == due ? NONE : BEHIND_TWO);
            }
        }
        Edges.fault("1;", 0);
        Edges.fault("1,2,3;", 0);
        Edges.fault("pp1,2,3;", 0);
        Edges.fault("q6;6;", 3);
    }

    private static void oneOrTwoFigures() {
        Due.sentence("1: numbers (one or two figures)");
        Edges.fault("p00,05,09;n07,08;p1,1,10;c01,00,00;q06;", NONE);
        String[] off = {"", "001", "000", "010", "/", ":", "1/", "1:", "/1", "-1", "+1", " 1", "1 ", "1.", "a", "0x1", "1e0"};
        for (String n : off) {
            Edges.fault(TWO + "p" + n + ",1,1;", BEHIND_TWO);
            Edges.fault(TWO + "p1," + n + ",1;", BEHIND_TWO);
            Edges.fault(TWO + "p1,1," + n + ";", BEHIND_TWO);
            Edges.fault(TWO + "n" + n + ",1;", BEHIND_TWO);
            Edges.fault(TWO + "n1," + n + ";", BEHIND_TWO);
            Edges.fault(TWO + "c" + n + ",0,1;", BEHIND_TWO);
            Edges.fault(TWO + "c0," + n + ",1;", BEHIND_TWO);
            Edges.fault(TWO + "c0,1," + n + ";", BEHIND_TWO);
            Edges.fault(TWO + "q" + n + ";", BEHIND_TWO);
        }
        LodgingNames x = Edges.laid("p0,1,30;p1,05,07;n20,9;n19,08;q10;");
        due("two figures", x.person(0, 2), 30);
        due("a 0 ahead", x.person(1, 1), 10);
        due("a 0 ahead", x.person(1, 2), 7);
        due("20", x.name(0, 0), 20);
        due("19", x.name(1, 0), 19);
        due("a 0 ahead", x.name(1, 1), 8);
        due("10", x.count(6), 10);
    }

    private static void partedByCommas() {
        Due.sentence("1: numbers parted by ,");
        for (String mark : new String[] {";", " ", ".", "", ",,", ", ", " ,", "-", "+", "/", ":"}) {
            Edges.fault(TWO + "p1" + mark + "1,1;", BEHIND_TWO);
            Edges.fault(TWO + "p1,1" + mark + "1;", BEHIND_TWO);
            Edges.fault(TWO + "n1" + mark + "1;", BEHIND_TWO);
            Edges.fault(TWO + "c1" + mark + "0,1;", BEHIND_TWO);
            Edges.fault(TWO + "c1,0" + mark + "1;", BEHIND_TWO);
        }
        Edges.fault("q,6;", 0);
        Edges.fault("n,1,1;", 0);
        Edges.fault("q6,;", 0);
        Edges.fault("n1,1,;", 0);
    }

    private static void aSemicolonBehindTheLast() {
        Due.sentence("1: and a ; behind the last one");
        for (String item : new String[] {"p1,1,1", "n1,1", "c0,1,1", "q1"}) {
            Edges.fault(TWO + item + ";", NONE);
            for (int k = 1; k <= item.length(); k++) {
                Edges.fault(TWO + item.substring(0, k), BEHIND_TWO);
            }
            for (String mark : new String[] {",", ":", ".", " ", " ;", "q1;", "0", ",1;"}) {
                Edges.fault(TWO + item + mark, BEHIND_TWO);
            }
            Edges.fault(TWO + item + ";;", BEHIND_TWO + item.length() + 1);
        }
        LodgingNames x = Edges.written("q6;q1");
        x.wipe();
        Edges.write(x, "q7");
        due("letters of an earlier TEXT do not end it", x.fault(), 0);
    }

    /** An ITEM with each number from 0 to 99 in this place. */
    private static void numbers(String ahead, String behind, int low, int high) {
        for (int value = 0; value <= 99; value++) {
            Edges.fault(TWO + ahead + value + behind, low <= value && value <= high ? NONE : BEHIND_TWO);
        }
    }

    private static void kinds() {
        Due.sentence("1: of KIND K (0 PLAIN .. 4 CHILD)");
        numbers("p", ",1,1;", 0, 4);
        for (int kind = 0; kind <= 4; kind++) {
            due("KIND", Edges.laid("p" + kind + ",1,1;n1,1;").person(0, 0), kind);
        }
    }

    private static void bedsTold() {
        Due.sentence("1: with B (0 to 5) BEDS");
        numbers("p0,", ",1;", 0, 5);
        for (int beds = 0; beds <= 5; beds++) {
            due("BEDS", Edges.laid("p0," + beds + ",1;n1,1;").person(0, 1), beds);
        }
    }

    private static void foodTold() {
        Due.sentence("1: and F (0 to 30) FOOD a day");
        numbers("p0,1,", ";", 0, 30);
        for (int food = 0; food <= 30; food++) {
            due("FOOD", Edges.laid("p0,1," + food + ";n1,1;").person(0, 2), food);
        }
    }

    private static void personsAtMost() {
        Due.sentence("1: PERSONS: 6 at most, 0, 1, ..");
        for (int many = 1; many <= 6; many++) {
            due("so many PERSONS", Edges.lay(Edges.times("p0,1,1;", many) + "n1,1;"), many);
        }
        Edges.fault("n1,1;" + Edges.times("p0,1,1;", 7), 5 + 42);
        Edges.fault("n1,1;" + Edges.times("p0,1,1;", 6) + "n1,1;p0,1,1;", 5 + 42 + 5);
        LodgingNames x = Edges.laid("p0,1,11;p1,1,12;n1,1;p2,1,13;p3,1,14;p4,1,15;p0,1,16;");
        for (int p = 0; p < 6; p++) {
            due("PERSON " + p + " is told as the " + p + "th", x.person(p, 2), 11 + p);
        }
    }

    private static void unkindTold() {
        Due.sentence("1: a NAME that is U (0 to 20) UNKIND");
        numbers("n", ",1;", 0, 20);
        for (int unkind = 0; unkind <= 20; unkind++) {
            due("UNKIND", Edges.laid("p0,1,1;n" + unkind + ",1;").name(0, 0), unkind);
        }
    }

    private static void eatsTold() {
        Due.sentence("1: and EATS E (0 to 9)");
        numbers("n1,", ";", 0, 9);
        for (int eats = 0; eats <= 9; eats++) {
            due("EATS", Edges.laid("p0,1,1;n1," + eats + ";").name(0, 1), eats);
        }
    }

    private static void namesAtMost() {
        Due.sentence("1: NAMES: 8 at most, 0, 1, ..");
        for (int many = 1; many <= 8; many++) {
            due("so many NAMES", Edges.laid("p0,1,1;" + Edges.times("n1,1;", many)).count(1), many);
        }
        Edges.fault("p0,1,1;" + Edges.times("n1,1;", 9), 7 + 40);
        Edges.fault("p0,1,1;" + Edges.times("n1,1;", 8) + "p0,1,1;n1,1;", 7 + 40 + 7);
        LodgingNames x = Edges.laid("n11,1;n12,2;p0,1,1;n13,3;n14,4;n15,5;n16,6;n17,7;n18,8;");
        for (int n = 0; n < 8; n++) {
            due("NAME " + n + " is told as the " + n + "th", x.name(n, 0), 11 + n);
        }
    }

    private static void wordOfAnother() {
        Due.sentence("1: I CALLS J (unlike)");
        Edges.fault(TWO + "c0,1,0;", NONE);
        Edges.fault(TWO + "c1,0,0;", NONE);
        Edges.fault(TWO + "c0,0,0;", BEHIND_TWO);
        Edges.fault(TWO + "c1,1,0;", BEHIND_TWO);
        LodgingNames x = Edges.laid(TWO + "c0,1,0;");
        due("I CALLS J", x.calls(0, 1, 0), 1);
        due("J calls not I by it", x.calls(1, 0, 0), 0);
    }

    private static void wordOfPersonsToldAhead() {
        Due.sentence("1: I CALLS J (both told ahead)");
        for (int far = 2; far <= 99; far++) {
            Edges.fault(TWO + "c" + far + ",0,0;", BEHIND_TWO);
            Edges.fault(TWO + "c0," + far + ",0;", BEHIND_TWO);
        }
        Edges.fault(TWO + "c2,0,0;p0,1,1;", BEHIND_TWO);
        Edges.fault(TWO + "c0,2,0;p0,1,1;", BEHIND_TWO);
        Edges.fault(TWO + "p0,1,1;c2,0,0;c0,2,0;", NONE);
        String six = Edges.times("p0,1,1;", 6) + "n1,1;";
        Edges.fault(six + "c5,4,0;c4,5,0;", NONE);
        Edges.fault(six + "c6,5,0;", 47);
        Edges.fault(six + "c5,6,0;", 47);
    }

    private static void wordByANameToldAhead() {
        Due.sentence("1: by NAME N (told ahead)");
        for (int far = 2; far <= 99; far++) {
            Edges.fault(TWO + "c0,1," + far + ";", BEHIND_TWO);
        }
        Edges.fault(TWO + "c0,1,2;n1,1;", BEHIND_TWO);
        Edges.fault(TWO + "n1,1;c0,1,2;", NONE);
        Edges.fault("p0,1,1;p0,1,1;c0,1,0;n1,1;", 14);
        String eight = "p0,1,1;p0,1,1;" + Edges.times("n1,1;", 8);
        Edges.fault(eight + "c0,1,7;", NONE);
        Edges.fault(eight + "c0,1,8;", 54);
    }

    // Two PERSONS and seven NAMES, 49 letters, then twelve WORDS, 84 letters.
    private static String twelve() {
        StringBuilder text = new StringBuilder("p0,1,1;p0,1,1;" + Edges.times("n1,1;", 7));
        for (int n = 0; n < 6; n++) {
            text.append("c0,1,").append(n).append(";c1,0,").append(n).append(';');
        }
        return text.toString();
    }

    private static void wordsAtMost() {
        Due.sentence("1: a WORD; 12 at most");
        due("twelve", Edges.laid(twelve()).count(2), 12);
        Edges.fault(twelve() + "c0,1,6;", 49 + 84);
        Edges.fault(twelve() + "q6;c1,0,6;", 49 + 84 + 3);
        due("a 13th is not laid", Edges.lay(twelve() + "c0,1,6;"), NO);
    }

    private static void toldOnceMore() {
        Due.sentence("1: told once more it is none again");
        due("twice", Edges.laid(TWO + "c0,1,0;c0,1,0;").count(2), 0);
        LodgingNames x = Edges.laid(TWO + "c0,1,0;c1,0,0;c0,1,1;c0,1,0;");
        due("it is none", x.calls(0, 1, 0), 0);
        due("the other way it is one", x.calls(1, 0, 0), 1);
        due("by the other NAME it is one", x.calls(0, 1, 1), 1);
        due("two", x.count(2), 2);
        due("three times", Edges.laid(TWO + "c0,1,0;c0,1,0;c0,1,0;").calls(0, 1, 0), 1);
        Edges.fault(twelve() + "c0,1,0;", NONE);
        LodgingNames y = Edges.laid(twelve() + "c0,1,0;c0,1,6;");
        due("there is room for another", y.count(2), 12);
        due("the other", y.calls(0, 1, 6), 1);
        due("none again", y.calls(0, 1, 0), 0);
        Edges.fault(twelve() + "c0,1,0;c0,1,6;c0,1,0;", 49 + 84 + 14);
        Edges.fault(Edges.times("p0,1,1;", 2) + "n1,1;" + Edges.times("c0,1,0;", 14), NONE);
    }

    private static void quarrelTold() {
        Due.sentence("1: NAMES QUARREL that are Q (1 to 20) apart");
        numbers("q", ";", 1, 20);
        for (int q = 1; q <= 20; q++) {
            due("Q", Edges.laid(TWO + "q" + q + ";").count(6), q);
        }
    }

    private static void quarrelWithout() {
        Due.sentence("1: (8 without");
        due("8", Edges.laid(TWO).count(6), 8);
        LodgingNames x = Edges.laid(TWO + "q3;");
        x.wipe();
        Edges.write(x, TWO);
        x.lay();
        due("8 when another one was told in an earlier TEXT", x.count(6), 8);
    }

    private static void quarrelOfSeveral() {
        Due.sentence("1: of several such the last one counts)");
        due("the last", Edges.laid("q3;" + TWO + "q20;q1;").count(6), 1);
        due("the last", Edges.laid("q3;" + TWO).count(6), 3);
        due("the higher", Edges.laid("q3;" + TWO + "q4;").count(6), 4);
    }

    private static void faultOfTheFirst() {
        Due.sentence("1: FAULT: the place (from 0 on) of the first letter of the first ITEM that is not so");
        Edges.fault("x", 0);
        Edges.fault("q6;x", 3);
        Edges.fault("q6;n1,x;", 3);
        Edges.fault("q6;p0,1,x;q0;", 3);
        Edges.fault("q6;q0;q21;", 3);
        Edges.fault("q6;q1;q21;q0;", 6);
        Edges.fault("q6;p0,1,31;", 3);
        Edges.fault(Edges.times("q12;", 49) + "q6;x", 199);
    }

    private static void faultOfNothing() {
        Due.sentence("1: a TEXT of no letters has no ITEM that is not so");
        LodgingNames x = new LodgingNames();
        due("none written", x.fault(), NONE);
        x.write('x');
        due("one", x.fault(), 0);
        x.wipe();
        due("wiped", x.fault(), NONE);
    }

    private static void laidOfBoth() {
        Due.sentence("Terms: LAID is a TEXT without FAULT, of a PERSON and a NAME at least (NO else)");
        due("one of each", Edges.lay("p0,0,0;n0,0;"), 1);
        due("the NAME first", Edges.lay("n0,0;p0,0,0;"), 1);
        due("no NAME", Edges.lay("p0,0,0;"), NO);
        due("six PERSONS, no NAME", Edges.lay(Edges.times("p0,0,0;", 6) + "q6;"), NO);
        due("no PERSON", Edges.lay("n0,0;"), NO);
        due("eight NAMES, no PERSON", Edges.lay(Edges.times("n0,0;", 8)), NO);
        due("neither", Edges.lay("q6;"), NO);
        due("no letter", Edges.lay(""), NO);
        due("a FAULT behind both", Edges.lay("p0,0,0;n0,0;q0;"), NO);
        due("an ITEM cut off", Edges.lay("p0,0,0;n0,0;q6"), NO);
    }

    private static void laidAtFirst() {
        Due.sentence("Terms: at first p0,2,6;p1,2,12;p2,2,9;p3,1,5;p4,3,8;n3,2;n9,4;n1,1;n14,3;n6,5;c0,1,0;..");
        LodgingNames x = new LodgingNames();
        LodgingNames y = Edges.laid("p0,2,6;p1,2,12;p2,2,9;p3,1,5;p4,3,8;n3,2;n9,4;n1,1;n14,3;n6,5;"
                + "c0,1,0;c1,0,3;c2,1,1;c0,2,2;c3,2,4;c4,1,0;c1,3,1;c0,4,1;q6;");
        y.wipe();
        due("as this one", Edges.picture(x).equals(Edges.picture(y)) ? 1 : 0, 1);
        int[] told = {26, 1412, 229, 315, 438};
        int[] names = {32, 94, 11, 143, 65};
        for (int k = 0; k < 5; k++) {
            int beds = x.person(k, 1);
            int food = x.person(k, 2);
            due("PERSON " + k, (10 * x.person(k, 0) + beds) * (food > 9 ? 100 : 10) + food, told[k]);
            due("NAME " + k, 10 * x.name(k, 0) + x.name(k, 1), names[k]);
        }
        due("0 calls 1 by 0", x.calls(0, 1, 0), 1);
        due("1 calls 0 by 3", x.calls(1, 0, 3), 1);
        due("2 calls 1 by 1", x.calls(2, 1, 1), 1);
        due("0 calls 2 by 2", x.calls(0, 2, 2), 1);
        due("3 calls 2 by 4", x.calls(3, 2, 4), 1);
        due("4 calls 1 by 0", x.calls(4, 1, 0), 1);
        due("1 calls 3 by 1", x.calls(1, 3, 1), 1);
        due("0 calls 4 by 1", x.calls(0, 4, 1), 1);
        due("these eight", x.count(2), 8);
        due("q6", x.count(6), 6);
    }

    // ---- promises 1 to 9

    private static void newObject() {
        Due.sentence("Promise 1: LodgingNames()");
        LodgingNames x = new LodgingNames();
        int[] counts = {5, 5, 8, 0, 0, 0, 6, 0, 0, 0, 0};
        for (int what = 0; what < counts.length; what++) {
            due("count(" + what + ")", x.count(what), counts[what]);
        }
        due("THE TEXT is empty: lay()", x.lay(), NO);
        due("wipe()", x.wipe(), 0);
        due("undo()", x.undo(), NO);
        due("back()", x.back(), NO);
        due("forget()", x.forget(), 0);
        x.pass(3);
        x.write('q');
        due("objects do not know of one another", new LodgingNames().count(4), 0);
        due("nor of one another's TEXT", new LodgingNames().count(10), 0);
    }

    private static void writtenLetters() {
        Due.sentence("Promise 2: write: A letter (32 to 126). BAD");
        LodgingNames x = new LodgingNames();
        int length = 0;
        for (int letter = -2; letter <= 260; letter++) {
            boolean is = letter >= 32 && letter <= 126;
            length += is ? 1 : 0;
            due("write(" + letter + ")", x.write(letter), is ? length : BAD);
        }
        due("32 to 126", x.count(10), 95);
        for (int letter : new int[] {31, 127, 128, 256 + 'q', 65536 + 'q', Integer.MIN_VALUE, Integer.MAX_VALUE}) {
            Edges.refused("write(" + letter + ")", Edges.written("q6;"), y -> y.write(letter), BAD);
        }
    }

    private static void writtenLength() {
        Due.sentence("Promise 2: write: comes behind THE TEXT: how long it is. FULL");
        LodgingNames x = Edges.laid("p0,1,1;n1,1;");
        x.wipe();
        for (int k = 1; k <= 200; k++) {
            due("the " + k + "th", x.write('x'), k);
        }
        Edges.refused("the 201st", x, y -> y.write('x'), FULL);
        Edges.refused("the 202nd", x, y -> y.write('x'), FULL);
        x.wipe();
        due("behind wipe()", x.write('x'), 1);
        LodgingNames z = Edges.laid("p0,1,1;n1,1;");
        due("behind lay()", z.write('q'), 13);
    }

    private static void writeBeforeFull() {
        Due.sentence("Promise 2: write: BAD ahead of FULL");
        LodgingNames x = Edges.written(Edges.times("q", 200));
        Edges.refused("write(31) beyond 200", x, y -> y.write(31), BAD);
        due("write(127) beyond 200", x.write(127), BAD);
        due("write(32) beyond 200", x.write(32), FULL);
        due("write(126) beyond 200", x.write(126), FULL);
    }

    private static void wiped() {
        Due.sentence("Promise 3: wipe: THE TEXT is empty: how long it was");
        LodgingNames x = new LodgingNames();
        due("of none", x.wipe(), 0);
        x.write('q');
        due("of one", x.wipe(), 1);
        due("again", x.wipe(), 0);
        Edges.write(x, Edges.times("q", 200));
        due("of 200", x.wipe(), 200);
        due("it is empty", x.count(10), 0);
        Edges.write(x, TWO);
        x.lay();
        x.wipe();
        due("what is LAID stays", x.count(0), 2);
        due("no TEXT to be laid", x.lay(), NO);
    }

    private static void faultAsked() {
        Due.sentence("Promise 4: fault: FAULT. NONE");
        LodgingNames x = Edges.laid(TWO + "c0,1,0;");
        Edges.asks("fault()", x, y -> y.fault());
        Edges.write(x, "c0,1,0;q0;");
        due("of THE TEXT, not of what is LAID", x.fault(), BEHIND_TWO + 14);
        Edges.asks("fault() of one with a FAULT", x, y -> y.fault());
        due("the WORD is as LAID", x.calls(0, 1, 0), 1);
        due("Q is as LAID", x.count(6), 8);
        x.wipe();
        due("NONE", x.fault(), NONE);
        Edges.write(x, "q3;n7,7;");
        Edges.asks("fault() of another TEXT", x, y -> y.fault());
        due("PERSONS as LAID", x.count(0), 2);
        due("NAMES as LAID", x.count(1), 2);
        due("Q as LAID", x.count(6), 8);
    }

    private static void layHowMany() {
        Due.sentence("Promise 5: lay: LAID: how many PERSONS");
        due("one", Edges.lay("p0,1,1;n1,1;n1,1;"), 1);
        due("six", Edges.lay(Edges.times("p0,1,1;", 6) + "n1,1;"), 6);
        LodgingNames x = Edges.laid(Edges.times("p0,1,1;", 6) + Edges.times("n1,1;", 8) + "c5,4,7;");
        x.wipe();
        Edges.write(x, "p0,1,1;n1,1;");
        due("fewer than before", x.lay(), 1);
        due("one NAME", x.count(1), 1);
        due("no WORD of the earlier one", x.count(2), 0);
    }

    private static void layAnew() {
        Due.sentence("Promise 5: lay: day 0, nobody lodges, nothing SEEN, UNDONE, KEPT; THE TEXT stays");
        LodgingNames x = Edges.laid("p0,1,9;p0,0,9;n3,1;c1,0,0;c0,1,0;");
        x.pass(3);
        x.see(0, 0, 1, 5);
        x.keep();
        x.keep();
        x.say(1, 0, 0);
        int[] before = {2, 1, 1, 1, 3, 3, 8, 1, 2, 2, 33};
        int[] behind = {2, 1, 2, 0, 0, 0, 8, 0, 0, 0, 33};
        for (int what = 0; what < before.length; what++) {
            due("ahead, count(" + what + ")", x.count(what), before[what]);
        }
        due("lay()", x.lay(), 2);
        for (int what = 0; what < behind.length; what++) {
            due("laid, count(" + what + ")", x.count(what), behind[what]);
        }
        due("nothing UNDONE", x.undo(), NO);
        due("nothing KEPT", x.back(), NO);
        due("nothing SEEN", x.said(1, 0), 257);
        due("nobody lodges", x.stout(0, 0), 0);
        due("THE TEXT can be laid once more", x.lay(), 2);
    }

    private static void layRefused() {
        Due.sentence("Promise 5: lay: NO: nothing changes then");
        for (String text : new String[] {"", "q3;", "p0,0,0;", "n7,7;", "p0,0,0;n7,7;c0,0,0;", "p0,0,0;n7,7;q3;x"}) {
            LodgingNames x = Edges.laid(TWO + "c1,0,0;c0,1,1;q5;");
            x.pass(2);
            x.see(0, 0, 1, 3);
            x.keep();
            x.wipe();
            Edges.write(x, text);
            Edges.refused("lay of " + text, x, y -> y.lay(), NO);
            due("FOOD as LAID", x.person(0, 2), 9);
            due("UNKIND as LAID", x.name(1, 0), 5);
            due("SEEN still", x.said(1, 0) & 256, 256);
            due("KEPT still", x.back(), 0);
        }
    }

    private static void personWhat() {
        Due.sentence("Promise 6: person: KIND (what = 0), .. HUNGRY (4). BAD");
        LodgingNames x = Edges.laid("p3,2,7;p0,0,0;n1,1;n2,1;c1,0,1;");
        x.pass(1);
        int[] answers = {3, 2, 7, 2, 0};
        for (int what = 0; what <= 4; what++) {
            due("person(0, " + what + ")", x.person(0, what), answers[what]);
        }
        Edges.refused("person(0, -1)", x, y -> y.person(0, -1), BAD);
        Edges.refused("person(0, 5)", x, y -> y.person(0, 5), BAD);
        for (int far : Edges.FAR_OFF) {
            due("person(0, " + far + ")", x.person(0, far), BAD);
        }
    }

    private static void personBeds() {
        Due.sentence("Promise 6: person: BEDS (1; a HARBOURMASTER's twice as many as told)");
        for (int beds = 0; beds <= 5; beds++) {
            for (int kind = 0; kind <= 4; kind++) {
                LodgingNames x = Edges.laid("p" + kind + "," + beds + ",1;n1,1;");
                due("KIND " + kind + " with " + beds, x.person(0, 1), kind == 1 ? 2 * beds : beds);
            }
        }
    }

    private static void personLodgers() {
        Due.sentence("Promise 6: person: who lodges with him (3; bits)");
        String crowd = "p1,5,30;p1,5,30;" + Edges.times("n5,0;", 8);
        due("nobody", Edges.laid(crowd).person(0, 3), 0);
        for (int n = 0; n < 8; n++) {
            LodgingNames x = Edges.laid(crowd + "c1,0," + n + ";");
            x.pass(1);
            due("NAME " + n, x.person(0, 3), 1 << n);
            due("not with the other one", x.person(1, 3), 0);
        }
        StringBuilder text = new StringBuilder(crowd);
        for (int n = 0; n < 8; n++) {
            text.append("c1,0,").append(n).append(';');
        }
        LodgingNames all = Edges.laid(text.toString());
        all.pass(1);
        due("all eight", all.person(0, 3), 255);
    }

    private static void personHungry() {
        Due.sentence("Promise 6: person: 1 if he is HUNGRY now (4)");
        // Two that EAT 4 and 5 together: with so much FOOD, one less, and none.
        for (int food : new int[] {30, 10, 9, 8, 0}) {
            LodgingNames x = Edges.laid("p0,2," + food + ";p0,0,0;p0,0,0;n1,4;n1,5;c1,0,0;c2,0,0;c1,0,1;c2,0,1;");
            due("ahead", x.person(0, 4), 0);
            x.pass(1);
            due("with " + food, x.person(0, 4), food < 9 ? 1 : 0);
        }
        LodgingNames y = Edges.laid("p0,1,0;p0,0,0;n1,0;c1,0,0;");
        y.pass(1);
        due("EATS 0 of 0", y.person(0, 4), 0);
    }

    private static void nameWhat() {
        Due.sentence("Promise 7: name: UNKIND (what = 0), EATS (1). BAD");
        LodgingNames x = Edges.laid("p0,1,1;n20,9;n0,0;");
        due("UNKIND", x.name(0, 0), 20);
        due("EATS", x.name(0, 1), 9);
        due("UNKIND 0", x.name(1, 0), 0);
        due("EATS 0", x.name(1, 1), 0);
        Edges.refused("name(0, 2)", x, y -> y.name(0, 2), BAD);
        Edges.refused("name(0, -1)", x, y -> y.name(0, -1), BAD);
        for (int far : Edges.FAR_OFF) {
            due("name(0, " + far + ")", x.name(0, far), BAD);
        }
    }

    private static void stoutNone() {
        Due.sentence("Promise 8: stout: How stout a NAME is with a PERSON (0: it does not lodge there). BAD");
        LodgingNames x = Edges.laid("p0,2,30;p0,2,30;n1,0;n2,0;c1,0,1;");
        due("0 at first", x.stout(0, 1), 0);
        x.pass(1);
        due("with 0 it lodges", x.stout(0, 1), 1);
        due("not with 1", x.stout(1, 1), 0);
        due("nor the other NAME", x.stout(0, 0), 0);
        x.pass(20);
        due("9 at most", x.stout(0, 1), 9);
        x.say(1, 0, 1);
        x.pass(9);
        due("gone", x.stout(0, 1), 0);
        Edges.refused("stout(2, 0)", x, y -> y.stout(2, 0), BAD);
        Edges.refused("stout(0, 2)", x, y -> y.stout(0, 2), BAD);
    }

    private static void callsAlike() {
        Due.sentence("Promise 9: calls: 1 if I CALLS J by NAME n, 0. BAD (alike, too)");
        LodgingNames x = Edges.laid(TWO + "c0,1,1;");
        due("1", x.calls(0, 1, 1), 1);
        due("0 by the other NAME", x.calls(0, 1, 0), 0);
        due("0 the other way", x.calls(1, 0, 1), 0);
        due("alike", x.calls(0, 0, 1), BAD);
        due("alike", x.calls(1, 1, 1), BAD);
        due("alike, and there is none such", x.calls(2, 2, 1), BAD);
    }

    // ---- BAD: PERSONS and NAMES such as there are

    private static void suchAsThereAre() {
        Due.sentence("Terms: BAD: a number is none that is told (PERSONS, NAMES: such as there are)");
        for (int persons : new int[] {2, 5, 6}) {
            for (int names : new int[] {1, 5, 8}) {
                LodgingNames x = Edges.laid(Edges.times("p0,1,1;", persons) + Edges.times("n1,1;", names));
                personsThereAre(x, persons - 1, names - 1);
                namesThereAre(x, persons - 1, names - 1);
            }
        }
        onePerson();
    }

    /** The calls with a PERSON: the last one is told, -1 and one beyond are not. */
    private static void personsThereAre(LodgingNames x, int p, int n) {
        due("person", x.person(p, 0), 0);
        due("stout", x.stout(p, n), 0);
        due("calls", x.calls(p, 0, n) + x.calls(0, p, n), 0);
        due("behind", x.behind(1, p, n), 0);
        due("load", x.load(p, 0), 0);
        due("out", x.out(p, n, 1, 0), 0);
        due("rooms", x.rooms(p), 0);
        due("whose", x.whose(p, n), 0);
        due("mend", x.mend(p), 0);
        due("said", x.said(p, 0) & x.said(0, p) & 257, 257);
        due("game", Math.min(x.game(p, 0, 1, 0), x.game(0, p, 1, 0)) > 0 ? 1 : 0, 1);
        due("say", x.say(p, 0, n), 1);
        due("say", x.say(p, 0, n), 0);
        due("see", x.see(p, n, 1, 0), 1);
        due("forget", x.forget(), 1);
        for (int q : new int[] {-1, p + 1, Integer.MIN_VALUE, Integer.MAX_VALUE}) {
            String of = q + " of " + (p + 1) + " PERSONS";
            due("person, " + of, x.person(q, 0), BAD);
            due("stout, " + of, x.stout(q, n), BAD);
            due("calls, " + of, x.calls(q, 0, n), BAD);
            due("calls, " + of, x.calls(0, q, n), BAD);
            due("behind, " + of, x.behind(1, q, n), BAD);
            due("load, " + of, x.load(q, 0), BAD);
            due("out, " + of, x.out(q, n, 1, 0), BAD);
            due("rooms, " + of, x.rooms(q), BAD);
            due("whose, " + of, x.whose(q, n), BAD);
            due("mend, " + of, x.mend(q), BAD);
            due("said, " + of, x.said(q, 0), BAD);
            due("said, " + of, x.said(0, q), BAD);
            due("game, " + of, x.game(q, 0, 1, 0), BAD);
            due("game, " + of, x.game(0, q, 1, 0), BAD);
            due("say, " + of, x.say(q, 0, n), BAD);
            due("say, " + of, x.say(0, q, n), BAD);
            due("see, " + of, x.see(q, n, 1, 0), BAD);
            due("chance, " + of, x.chance(q, n, 1, 0), BAD);
        }
    }

    /** The calls with a NAME: the last one is told, -1 and one beyond are not. */
    private static void namesThereAre(LodgingNames x, int p, int n) {
        due("name", x.name(n, 0), 1);
        due("chance", x.chance(p, n, 1, 0), 0);
        for (int m : new int[] {-1, n + 1, Integer.MIN_VALUE, Integer.MAX_VALUE}) {
            String of = m + " of " + (n + 1) + " NAMES";
            due("name, " + of, x.name(m, 0), BAD);
            due("stout, " + of, x.stout(p, m), BAD);
            due("calls, " + of, x.calls(p, 0, m), BAD);
            due("behind, " + of, x.behind(1, p, m), BAD);
            due("out, " + of, x.out(p, m, 1, 0), BAD);
            due("whose, " + of, x.whose(p, m), BAD);
            due("say, " + of, x.say(p, 0, m), BAD);
            due("see, " + of, x.see(p, m, 1, 0), BAD);
            due("chance, " + of, x.chance(p, m, 1, 0), BAD);
        }
    }

    private static void onePerson() {
        LodgingNames x = Edges.laid("p0,1,1;n1,1;");
        due("the only one", x.person(0, 0), 0);
        due("no other one to call", x.calls(0, 1, 0), BAD);
        due("nor to be called by", x.say(1, 0, 0), BAD);
        due("alike", x.say(0, 0, 0), BAD);
        due("no other one", x.game(0, 1, 1, 0), BAD);
        due("no other one", x.said(0, 1), BAD);
        due("he lives alone", x.pass(20), 20);
        due("nobody lodges", x.count(3), 0);
    }
}
