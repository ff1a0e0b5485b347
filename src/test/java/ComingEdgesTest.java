/** The edges of what comes, promises 14 to 19: a test for each sentence. */
public final class ComingEdgesTest {
    private static final int BAD = Edges.BAD, NONE = Edges.NONE;
    // PERSON 0 has one BED, 1 to 3 have none.
    private static final String ONE_BED = "p0,1,30;p0,0,0;p0,0,0;p0,0,0;";

    private ComingEdgesTest() {
    }

    public static void main(String[] args) {
        all();
        Due.end("ComingEdgesTest");
    }

    static void all() {
        behindDays();
        behindNow();
        behindBad();
        homelessInTheNextDays();
        homelessLate();
        homelessOrder();
        homelessShown();
        homelessNone();
        homelessBad();
        loadOfUnkind();
        loadOfEaten();
        loadBad();
        outOfNone();
        outOfOne();
        outOfTwo();
        outOfThree();
        outOfFewest();
        outOfOthers();
        outByCallerThenName();
        outByFirstThenSecond();
        outBeyondTwelve();
        outBehindTheseDays();
        outDays();
        outKth();
        outBeforeNone();
        roomsByQuarrel();
        roomsFewest();
        roomsOfThoseThere();
        roomsBad();
        gameChoices();
        gameOneMore();
        gameCalledAlready();
        gameMostLoad();
        gameFirst();
        gameFirstByNone();
        gameBehindTheseDays();
        gameBeyondTwelve();
        gameDays();
        gameBad();
        askingChangesNothing();
    }

    private static void due(String what, long got, long want) {
        Due.due(what, got, want);
    }

    // ---- promise 14

    private static void behindDays() {
        Due.sentence("3: BEHIND n DAYS (0 to 40): how stout a NAME is with a PERSON (0: it does not lodge there)");
        LodgingNames x = Edges.laid("p0,1,30;p0,1,30;n1,0;c1,0,0;");
        for (int days = 0; days <= 40; days++) {
            due("stouter behind " + days, x.behind(days, 0, 0), Math.min(9, days));
            due("with the other one behind " + days, x.behind(days, 1, 0), 0);
        }
        x.pass(9);
        x.say(1, 0, 0);
        for (int days = 0; days <= 40; days++) {
            due("thinner behind " + days, x.behind(days, 0, 0), Math.max(0, 9 - days));
        }
    }

    private static void behindNow() {
        Due.sentence("3: BEHIND 0 DAYS: how it is");
        LodgingNames x = Edges.laid("p0,1,0;p0,1,0;n1,1;c1,0,0;");
        due("nobody", x.behind(0, 0, 0), 0);
        x.say(0, 1, 0);
        x.pass(1);
        due("hungry ones leave", x.behind(0, 0, 0), 0);
        LodgingNames y = Edges.laid("p0,1,0;p0,1,0;p0,1,0;n1,1;c1,0,0;c2,0,0;");
        y.pass(3);
        due("how it is", y.behind(0, 0, 0), y.stout(0, 0));
        due("three days by 2, less 1", y.behind(0, 0, 0), 3);
    }

    private static void behindBad() {
        Due.sentence("Promise 14: behind: BAD");
        LodgingNames x = Edges.laid("p0,1,30;p0,1,30;n1,0;c1,0,0;");
        Edges.refused("behind(-1, 0, 0)", x, y -> y.behind(-1, 0, 0), BAD);
        Edges.refused("behind(41, 0, 0)", x, y -> y.behind(41, 0, 0), BAD);
        for (int far : Edges.FAR_OFF) {
            due("behind(" + far + ", 0, 0)", x.behind(far, 0, 0), BAD);
        }
        due("behind(0, 2, 0)", x.behind(0, 2, 0), BAD);
        due("behind(0, 0, 1)", x.behind(0, 0, 1), BAD);
        due("behind(40, -1, 0)", x.behind(40, -1, 0), BAD);
        due("behind(40, 0, -1)", x.behind(40, 0, -1), BAD);
    }

    // ---- promise 15

    private static void dueHomeless(String what, LodgingNames x, int who, int day) {
        due(what + ", who", x.homeless(0), who);
        due(what + ", on which DAY", x.homeless(1), day);
    }

    private static void homelessInTheNextDays() {
        Due.sentence("3: HOMELESS: the first that has NO BED in the next DAYS (1 the next)");
        LodgingNames x = Edges.laid(ONE_BED + "n3,0;n5,0;c1,0,0;c1,0,1;");
        dueHomeless("0 comes, 1 takes its place", x, 0, 2);
        x.pass(1);
        dueHomeless("a day later", x, 0, 1);
        x.pass(1);
        due("one was without", x.count(5), 1);
        x.say(1, 0, 0);
        dueHomeless("those who were without don't count", x, NONE, NONE);
    }

    /**
     * Two BEDS, hungry: the longest that I could find. Day 1: 1 and 2 come in place of 0 and 1,
     * 2 leaves hungry. Day 2: 0, 1 and 2 come, 2 leaves hungry and 3 by itself. Day 3: 0 and 1
     * come, 2 for 0, 1 leaves hungry. Day 4: 0 comes, 1 for it. Day 5: 1 and 2 are there, 0 is not.
     */
    private static LodgingNames late() {
        LodgingNames x = Edges.laid("p0,2,3;" + Edges.times("p0,0,0;", 4) + "n12,3;n15,8;n17,9;n16,1;"
                + "c1,0,0;c2,0,0;c3,0,0;c4,0,0;c1,0,3;");
        x.pass(2);
        due("0 and 3 lodge", Edges.stouts(x, 0), 6002);
        x.say(1, 0, 3);
        x.say(1, 0, 1);
        x.say(1, 0, 2);
        return x;
    }

    private static void homelessLate() {
        Due.sentence("3: HOMELESS: in the next 40 DAYS (five at most, as far as found)");
        LodgingNames x = late();
        dueHomeless("now", x, 0, 5);
        int[] days = {1, 0, 10, 110};
        for (int k = 0; k < 4; k++) {
            x.pass(1);
            due("behind " + (k + 1), Edges.stouts(x, 0), days[k]);
            due("none was without", x.count(5), 0);
            dueHomeless("behind " + (k + 1), x, 0, 4 - k);
        }
        x.pass(1);
        due("0 was without", x.count(5), 1);
    }

    private static void homelessOrder() {
        Due.sentence("3: HOMELESS: (by the DAY, then the PERSON, then the NAME)");
        String three = "p0,1,9;p0,0,9;p0,0,9;n3,0;n5,0;n5,0;";
        dueHomeless("by the DAY", Edges.laid(three + "c1,0,0;c1,0,1;c0,2,2;"), 22, 1);
        dueHomeless("by the PERSON", Edges.laid(three + "c0,2,0;c0,1,2;"), 12, 1);
        dueHomeless("by the NAME", Edges.laid(three + "c0,1,2;c0,1,1;"), 11, 1);
        dueHomeless("by the PERSON on day 2", Edges.laid("p0,1,9;p0,1,9;n3,0;n5,0;c1,0,0;c1,0,1;c0,1,0;c0,1,1;"), 0, 2);
    }

    private static void homelessShown() {
        Due.sentence("3: HOMELESS: as 10 times the PERSON and the NAME");
        String all = Edges.times("p0,0,0;", 6) + Edges.times("n1,0;", 8);
        for (int p = 0; p < 6; p++) {
            for (int n = 0; n < 8; n++) {
                LodgingNames x = Edges.laid(all + "c" + (p == 0 ? 1 : 0) + "," + p + "," + n + ";");
                dueHomeless("PERSON " + p + ", NAME " + n, x, 10 * p + n, 1);
            }
        }
    }

    private static void homelessNone() {
        Due.sentence("3: HOMELESS: none. Promise 15: NONE");
        dueHomeless("none is called", Edges.laid(ONE_BED + "n3,0;n5,0;"), NONE, NONE);
        dueHomeless("one BED each", Edges.laid("p0,1,0;p0,1,0;n3,5;c1,0,0;c0,1,0;"), NONE, NONE);
        LodgingNames x = Edges.laid(ONE_BED + "n3,0;n5,0;c1,0,0;");
        x.pass(20);
        x.say(1, 0, 0);
        x.say(1, 0, 1);
        dueHomeless("1 takes the place of one that is not called", x, NONE, NONE);
    }

    private static void homelessBad() {
        Due.sentence("Promise 15: homeless: BAD, ahead of NONE");
        LodgingNames none = Edges.laid("p0,1,0;n3,0;");
        LodgingNames one = Edges.laid("p0,0,0;p0,0,0;n3,0;c1,0,0;");
        for (int what : new int[] {-1, 2, Integer.MIN_VALUE, Integer.MAX_VALUE}) {
            Edges.refused("homeless(" + what + ") of none", none, x -> x.homeless(what), BAD);
            due("homeless(" + what + ")", one.homeless(what), BAD);
        }
    }

    // ---- promise 16

    private static LodgingNames eight(int unkind, int eats) {
        StringBuilder text = new StringBuilder("p1,5,30;p0,0,0;" + Edges.times("n" + unkind + "," + eats + ";", 8));
        for (int n = 0; n < 8; n++) {
            text.append("c1,0,").append(n).append(';');
        }
        return Edges.laid(text.toString());
    }

    private static void loadOfUnkind() {
        Due.sentence("3: LOAD of a PERSON: how UNKIND all are that lodge with him, together");
        LodgingNames x = Edges.laid("p0,3,30;p0,3,30;n3,7;n5,2;n20,9;c1,0,0;c1,0,1;c0,1,2;");
        due("nobody", x.load(0, 0), 0);
        x.pass(3);
        due("3 and 5", x.load(0, 0), 8);
        due("20", x.load(1, 0), 20);
        LodgingNames all = eight(20, 0);
        all.pass(1);
        due("eight of 20", all.load(0, 0), 160);
        LodgingNames none = eight(0, 0);
        none.pass(1);
        due("eight of 0", none.load(0, 0), 0);
    }

    private static void loadOfEaten() {
        Due.sentence("3: LOAD: how much they EAT");
        LodgingNames x = Edges.laid("p0,3,30;p0,3,30;n3,7;n5,2;n20,9;c1,0,0;c1,0,1;c0,1,2;");
        due("nobody", x.load(0, 1), 0);
        x.pass(3);
        due("7 and 2", x.load(0, 1), 9);
        due("9", x.load(1, 1), 9);
        LodgingNames all = eight(20, 9);
        all.pass(1);
        // 72 is more than 30: name 0 left again by hunger.
        due("seven of 9", all.load(0, 1), 63);
    }

    private static void loadBad() {
        Due.sentence("Promise 16: load: UNKIND (what = 0), EATEN (1). BAD");
        LodgingNames x = Edges.laid("p0,1,9;p0,1,9;n3,7;c1,0,0;");
        for (int off : new int[] {-1, 2, 6, Integer.MIN_VALUE, Integer.MAX_VALUE}) {
            due("load(0, " + off + ")", x.load(0, off), BAD);
            due("load(" + off + ", 0)", x.load(off, 0), BAD);
        }
        Edges.refused("load(2, 1)", x, y -> y.load(2, 1), BAD);
        Edges.refused("load(1, 2)", x, y -> y.load(1, 2), BAD);
    }

    // ---- promise 17

    /** How many, and both, of one with PERSON 0. */
    private static void dueOut(String what, LodgingNames x, int n, int days, int many, int first, int second) {
        due(what + ", how many", x.out(0, n, days, 0), many);
        due(what + ", the first", x.out(0, n, days, 1), first);
        due(what + ", the second", x.out(0, n, days, 2), second);
    }

    private static void outOfNone() {
        Due.sentence("3: OUT: by no WORD, if it does not lodge with him behind these as it is");
        LodgingNames x = Edges.laid(ONE_BED + "n3,0;n5,0;c1,0,0;");
        dueOut("called by none", x, 1, 1, 0, NONE, NONE);
        x.pass(9);
        x.say(1, 0, 0);
        dueOut("9 stout, gone behind 9 DAYS", x, 0, 9, 0, NONE, NONE);
        dueOut("but not behind 8", x, 0, 8, 1, 11, NONE);
    }

    private static void outOfOne() {
        Due.sentence("3: OUT: a WORD taken up or dropped now");
        LodgingNames x = Edges.laid(ONE_BED + "n3,0;n2,0;c2,0,0;");
        dueOut("dropped", x, 0, 1, 1, 20, NONE);
        x.pass(1);
        dueOut("dropped, 1 stout", x, 0, 1, 1, 20, NONE);
        LodgingNames y = Edges.laid(ONE_BED + "n3,0;n5,0;c1,0,0;c2,0,0;");
        dueOut("taken up", y, 0, 1, 1, 11, NONE);
        y.pass(5);
        dueOut("taken up, 9 stout", y, 0, 1, 1, 11, NONE);
    }

    private static void outOfTwo() {
        Due.sentence("3: OUT: of sets of 2 WORDS of him or fewer");
        LodgingNames x = Edges.laid(ONE_BED + "n3,0;n2,0;c2,0,0;c3,0,0;");
        dueOut("both dropped", x, 0, 1, 2, 20, 30);
        LodgingNames y = Edges.laid("p0,2,30;p0,0,0;p0,0,0;p0,0,0;n3,0;n4,0;n5,0;c1,0,0;c2,0,0;c3,0,0;");
        dueOut("both taken up by one", y, 0, 1, 2, 11, 12);
        // 1 is called by 1 already, and comes: one more comes in place of 0.
        y.say(1, 0, 1);
        dueOut("one is enough then", y, 0, 1, 1, 12, NONE);
    }

    private static void outOfThree() {
        Due.sentence("3: OUT: none. Promise 17: NONE");
        LodgingNames x = Edges.laid(ONE_BED + "n3,0;n3,0;c1,0,0;c2,0,0;c3,0,0;");
        dueOut("three to be dropped", x, 0, 1, NONE, NONE, NONE);
        dueOut("three to be dropped", x, 0, 20, NONE, NONE, NONE);
        LodgingNames y = Edges.laid(ONE_BED + "n3,0;c1,0,0;");
        y.pass(9);
        dueOut("too stout", y, 0, 8, NONE, NONE, NONE);
        dueOut("not too stout", y, 0, 9, 1, 10, NONE);
    }

    private static void outOfFewest() {
        Due.sentence("3: OUT: that one of fewest");
        LodgingNames x = Edges.laid(ONE_BED + "n3,0;n2,0;n5,0;c1,0,0;c2,0,0;");
        dueOut("10 and 20, but 12 alone is enough", x, 0, 1, 1, 12, NONE);
        x.say(2, 0, 0);
        dueOut("10 alone", x, 0, 1, 1, 10, NONE);
        x.say(1, 0, 0);
        dueOut("none", x, 0, 1, 0, NONE, NONE);
    }

    private static void outOfOthers() {
        Due.sentence("3: OUT: (by which others CALL him)");
        // He himself, as 0 and as 2, is none that CALLS him; nor do words of others tell on it.
        LodgingNames x = Edges.laid("p0,0,0;p0,0,0;p0,1,30;n3,0;n5,0;c0,2,0;c1,2,0;");
        due("how many", x.out(2, 0, 1, 0), 1);
        due("by 0", x.out(2, 0, 1, 1), 1);
        LodgingNames y = Edges.laid("p0,1,30;p0,0,0;n3,0;n5,0;c1,0,0;");
        dueOut("not by 0, but by 1", y, 0, 1, 1, 10, NONE);
        y.pass(5);
        dueOut("not by 0, but by 1", y, 0, 1, 1, 11, NONE);
        LodgingNames z = Edges.laid("p0,1,30;p0,0,0;n5,0;n3,0;c1,0,1;");
        z.pass(5);
        dueOut("by the other NAME not by 0, but by 1", z, 1, 1, 1, 10, NONE);
        LodgingNames alone = Edges.laid("p0,1,30;p0,0,0;n3,0;c1,0,0;");
        alone.pass(5);
        dueOut("nobody else", alone, 0, 4, NONE, NONE, NONE);
    }

    private static void outByCallerThenName() {
        Due.sentence("3: OUT: (by I, then N), of several the first; as 10 times I and N");
        LodgingNames x = Edges.laid(ONE_BED + "n3,0;n1,0;n5,0;c3,0,0;");
        dueOut("12 ahead of 30", x, 0, 1, 1, 12, NONE);
        LodgingNames y = Edges.laid("p0,1,30;" + Edges.times("p0,0,0;", 5) + Edges.times("n3,0;", 7) + "n5,0;c5,0,7;");
        dueOut("the highest PERSON and NAME", y, 7, 1, 1, 57, NONE);
        y.say(4, 0, 7);
        dueOut("the two highest PERSONS", y, 7, 1, 2, 47, 57);
        LodgingNames z = Edges.laid("p0,0,0;p0,1,30;n5,0;c0,1,0;");
        due("the lowest PERSON and NAME", z.out(1, 0, 1, 1), 0);
        LodgingNames w = Edges.laid("p0,0,0;p0,1,30;p0,0,0;n5,0;c0,1,0;c2,1,0;");
        due("the lowest of two", w.out(1, 0, 1, 1), 0);
        due("and the other", w.out(1, 0, 1, 2), 20);
    }

    private static void outByFirstThenSecond() {
        Due.sentence("3: OUT: (by its first WORD, then its second)");
        LodgingNames x = Edges.laid("p0,2,30;p0,0,0;p0,0,0;p0,0,0;n5,0;n6,0;n7,0;c1,0,0;c3,0,0;");
        dueOut("10 and 30 ahead of 11 and 12", x, 0, 1, 2, 10, 30);
        LodgingNames y = Edges.laid("p0,2,30;p0,0,0;p0,0,0;p0,0,0;n5,0;n6,0;n7,0;n8,0;c2,0,0;c3,0,0;");
        dueOut("11 and 12 ahead of 11 and 13", y, 0, 1, 2, 11, 12);
    }

    private static void outBeyondTwelve() {
        Due.sentence("3: OUT: (though they come to more than 12)");
        StringBuilder words = new StringBuilder("c1,0,0;c2,0,0;c3,0,0;");
        for (int n = 0; n < 8; n++) {
            words.append("c0,1,").append(n).append(';');
        }
        String names = "n3,0;n9,0;" + Edges.times("n1,0;", 6);
        LodgingNames x = Edges.laid(ONE_BED + names + words + "c0,2,0;");
        due("twelve", x.count(2), 12);
        dueOut("a 13th", x, 0, 1, 1, 11, NONE);
        LodgingNames y = Edges.laid("p0,2,30;p0,0,0;p0,0,0;p0,0,0;n3,0;n9,0;n9,0;" + Edges.times("n1,0;", 5) + words + "c0,2,0;");
        due("twelve", y.count(2), 12);
        dueOut("a 13th and a 14th", y, 0, 1, 2, 11, 12);
        due("twelve still", y.count(2), 12);
    }

    private static void outBehindTheseDays() {
        Due.sentence("3: OUT: have it not lodge with him behind these DAYS");
        LodgingNames x = late();
        due("2 is gone behind two", x.out(0, 2, 2, 0), 0);
        due("but not behind three", x.out(0, 2, 3, 0) != 0 ? 1 : 0, 1);
        due("0 is gone behind one", x.out(0, 0, 1, 0), 0);
        for (int n = 1; n <= 9; n++) {
            LodgingNames y = Edges.laid("p0,1,30;p0,0,0;n3,0;c1,0,0;");
            y.pass(n);
            dueOut("dropped by one " + n + " stout", y, 0, n, 1, 10, NONE);
            due("a DAY fewer", n > 1 ? y.out(0, 0, n - 1, 0) : NONE, NONE);
        }
    }

    private static void outDays() {
        Due.sentence("3: OUT for n (1 to 20) DAYS. Promise 17: BAD");
        LodgingNames x = Edges.laid("p0,1,30;p0,0,0;n3,0;n5,0;c1,0,0;");
        for (int days = 1; days <= 20; days++) {
            due("behind " + days, x.out(0, 0, days, 0), 1);
        }
        Edges.refused("out(0, 0, 0, 0)", x, y -> y.out(0, 0, 0, 0), BAD);
        Edges.refused("out(0, 0, 21, 0)", x, y -> y.out(0, 0, 21, 0), BAD);
        for (int far : Edges.FAR_OFF) {
            due("out(0, 0, " + far + ", 0)", x.out(0, 0, far, 0), BAD);
        }
    }

    private static void outKth() {
        Due.sentence("Promise 17: out: how many (k = 0), the k-th (1, 2; NONE: there are not so many)");
        dueOut("two", Edges.laid(ONE_BED + "n3,0;c1,0,0;c3,0,0;"), 0, 1, 2, 10, 30);
        dueOut("one", Edges.laid(ONE_BED + "n3,0;c1,0,0;"), 0, 1, 1, 10, NONE);
        LodgingNames x = Edges.laid(ONE_BED + "n3,0;c1,0,0;c3,0,0;");
        due("asked for the second at first", x.out(0, 0, 1, 2), 30);
        due("k = 3", x.out(0, 0, 1, 3), BAD);
        due("k = -1", x.out(0, 0, 1, -1), BAD);
        for (int far : Edges.FAR_OFF) {
            due("k = " + far, x.out(0, 0, 1, far), BAD);
        }
    }

    private static void outBeforeNone() {
        Due.sentence("Promise 17: out: BAD ahead of NONE");
        LodgingNames x = Edges.laid("p0,1,30;p0,0,0;n3,0;c1,0,0;");
        x.pass(9);
        Edges.refused("none", x, y -> y.out(0, 0, 8, 0), NONE);
        due("k = 3 of none", x.out(0, 0, 8, 3), BAD);
        due("k = -1 of none", x.out(0, 0, 8, -1), BAD);
        due("no such PERSON", x.out(2, 0, 8, 1), BAD);
        due("no such NAME", x.out(0, 1, 8, 1), BAD);
        due("21 days", x.out(0, 0, 21, 2), BAD);
    }

    // ---- promise 18

    /** So UNKIND ones all lodge with PERSON 0. */
    private static LodgingNames lodging(int q, int... unkind) {
        StringBuilder text = new StringBuilder("p1,5,30;p0,0,0;");
        for (int u : unkind) {
            text.append('n').append(u).append(",0;");
        }
        for (int n = 0; n < unkind.length; n++) {
            text.append("c1,0,").append(n).append(';');
        }
        LodgingNames x = Edges.laid(text + "q" + q + ";");
        x.pass(1);
        due("all lodge", x.count(3), unkind.length);
        return x;
    }

    private static void roomsByQuarrel() {
        Due.sentence("3: ROOMS so that none QUARREL in one (Q apart, or more)");
        for (int q = 1; q <= 20; q++) {
            due("Q apart", lodging(q, 0, q).rooms(0), 2);
            due("one less apart", lodging(q, 0, q - 1).rooms(0), 1);
            due("Q apart, the higher first", lodging(q, 20, 20 - q).rooms(0), 2);
            due("one less apart, the higher first", lodging(q, 20, 21 - q).rooms(0), 1);
            due("alike", lodging(q, 7, 7).rooms(0), 1);
        }
    }

    private static void roomsFewest() {
        Due.sentence("3: ROOMS: the fewest rooms");
        due("3 6, 0 9 would be three", lodging(4, 3, 6, 0, 9).rooms(0), 2);
        due("eight unlike", lodging(1, 0, 3, 6, 9, 12, 15, 18, 20).rooms(0), 8);
        due("eight unlike by 3", lodging(3, 0, 3, 6, 9, 12, 15, 18, 20).rooms(0), 7);
        due("eight unlike by 4", lodging(4, 20, 18, 15, 12, 9, 6, 3, 0).rooms(0), 4);
        due("eight alike", lodging(1, 5, 5, 5, 5, 5, 5, 5, 5).rooms(0), 1);
        due("eight about 20", lodging(20, 0, 20, 1, 19, 2, 18, 3, 17).rooms(0), 2);
        due("one", lodging(1, 20).rooms(0), 1);
        due("one of 0", lodging(1, 0).rooms(0), 1);
    }

    private static void roomsOfThoseThere() {
        Due.sentence("3: ROOMS into which all NAMES that lodge with a PERSON can be put");
        LodgingNames x = Edges.laid("p0,5,30;p0,5,30;n0,0;n20,0;n10,0;c1,0,0;c0,1,1;c0,1,2;q1;");
        due("nobody", x.rooms(0), 0);
        x.pass(1);
        due("one", x.rooms(0), 1);
        due("two", x.rooms(1), 2);
        x.mend(1);
        due("nobody any more", x.rooms(1), 0);
    }

    private static void roomsBad() {
        Due.sentence("Promise 18: rooms: BAD");
        LodgingNames x = Edges.laid("p0,5,30;p0,5,30;n0,0;c1,0,0;");
        x.pass(1);
        for (int p : new int[] {-1, 2, 6, Integer.MIN_VALUE, Integer.MAX_VALUE}) {
            Edges.refused("rooms(" + p + ")", x, y -> y.rooms(p), BAD);
        }
    }

    // ---- promise 19

    private static void dueGame(String what, LodgingNames x, int days, int pairs, int first) {
        due(what + ", how many", x.game(0, 1, days, 0), pairs);
        due(what + ", the first", x.game(0, 1, days, 1), first);
        due(what + ", how many the other way", x.game(1, 0, days, 0), pairs);
        due(what + ", the first the other way", x.game(1, 0, days, 1), first % 10 * 10 + first / 10);
    }

    private static void gameChoices() {
        Due.sentence("3: GAME: by one NAME, or by none: how many pairs rest");
        for (int names = 1; names <= 8; names++) {
            LodgingNames x = Edges.laid("p0,0,0;p4,5,30;" + Edges.times("n5,0;", names));
            dueGame("all is alike, " + names + " NAMES", x, 3, (names + 1) * (names + 1), 0);
            LodgingNames y = Edges.laid("p0,1,30;p0,1,30;" + Edges.times("n5,0;", names));
            dueGame("none is worse, " + names + " NAMES", y, 3, names * names, 0);
            LodgingNames z = Edges.laid("p0,1,30;p0,1,30;" + Edges.times("n5,0;", names - 1) + "n6,0;");
            dueGame("the last one alone", z, 3, 1, 11 * (names - 1));
        }
    }

    private static void gameOneMore() {
        Due.sentence("3: GAME: each CALLS the other one by one NAME more than now");
        // Two BEDS and two NAMES: both would be more than one.
        LodgingNames x = Edges.laid("p0,2,30;p0,2,30;n5,0;n3,0;");
        dueGame("the more UNKIND alone", x, 2, 1, 0);
        x.say(0, 1, 0);
        x.say(1, 0, 0);
        dueGame("the other one more", x, 2, 1, 11);
    }

    private static void gameCalledAlready() {
        Due.sentence("3: GAME: (a NAME by which he CALLS him already is as none, and one to choose all the same)");
        LodgingNames x = Edges.laid("p0,1,30;p0,1,30;n5,0;n3,0;c0,1,0;c1,0,0;");
        // 0 lodges with each whatever they do: 0, 1 and none.
        dueGame("called by 0", x, 2, 9, 0);
        LodgingNames y = Edges.laid("p0,1,30;p0,1,30;n3,0;n5,0;c0,1,0;c1,0,0;");
        dueGame("1 takes its place", y, 2, 1, 11);
        LodgingNames z = Edges.laid("p0,1,30;p0,1,30;n3,0;c0,1,0;c1,0,0;");
        dueGame("0 and none", z, 1, 4, 0);
    }

    private static void gameMostLoad() {
        Due.sentence("3: GAME: the LOAD (how UNKIND) of the other one less his own as much as can be");
        // With a CURATE 0 would come ahead of 1, called by 2, and keep it out; how much they EAT is no matter.
        LodgingNames x = Edges.laid("p2,1,30;p2,1,30;p0,0,0;n3,9;n20,0;c2,1,1;c2,0,1;");
        dueGame("1 or none", x, 1, 4, 11);
        LodgingNames y = Edges.laid("p0,1,30;p0,1,30;p0,0,0;n3,9;n5,0;n4,0;");
        dueGame("the most UNKIND one, not the one that EATS most", y, 1, 1, 11);
        LodgingNames z = Edges.laid("p0,1,30;p0,1,30;p0,0,0;n3,0;n5,0;n5,0;n5,0;");
        dueGame("of three by three", z, 1, 9, 11);
    }

    private static void gameFirst() {
        Due.sentence("3: GAME: the first (by the first one's NAME, then the other's), as 10 times the first's and the other's");
        LodgingNames x = Edges.laid("p0,1,30;p2,1,30;p0,0,0;" + Edges.times("n5,0;", 6) + "n6,0;n7,0;c2,1,7;q1;");
        // With 1 the NAME 7 comes if none that QUARRELS is there; with 0 it is the most UNKIND one.
        due("7 or none of 1, 7 of 0", x.game(0, 1, 1, 1), 77);
        due("two by one", x.game(0, 1, 1, 0), 2);
        LodgingNames y = Edges.laid("p0,1,30;p0,1,30;n1,0;n2,0;n3,0;c0,1,2;");
        due("any, for 2 is there; and 2", y.game(0, 1, 1, 1), 2);
        due("four by one", y.game(0, 1, 1, 0), 4);
        due("the other way", y.game(1, 0, 1, 1), 20);
    }

    private static void gameFirstByNone() {
        Due.sentence("3: GAME: (none last; none: 9)");
        LodgingNames x = Edges.laid("p0,0,0;p0,0,0;n1,0;");
        due("a NAME ahead of none", x.game(0, 1, 1, 1), 0);
        due("four pairs all the same", x.game(0, 1, 1, 0), 4);
        // 0 CALLS 1 by 1 already, which is as none; 0 would come ahead and keep 1 out.
        LodgingNames y = Edges.laid("p0,0,0;p2,1,30;n3,0;n20,0;c0,1,1;");
        due("the NAME that is as none, ahead of none", y.game(0, 1, 1, 1), 10);
        due("both", y.game(0, 1, 1, 0), 2 * 3);
    }

    private static void gameBehindTheseDays() {
        Due.sentence("3: GAME: behind these DAYS");
        // 0 is 9 stout with 1, and called no more: to the 8th DAY it is there by itself.
        LodgingNames x = Edges.laid("p0,0,0;p0,3,30;p0,0,0;n3,0;n2,0;c2,1,0;");
        x.pass(9);
        x.say(2, 1, 0);
        for (int days = 1; days <= 10; days++) {
            due("the first behind " + days, x.game(0, 1, days, 1), days < 9 ? 10 : 0);
            due("pairs behind " + days, x.game(0, 1, days, 0), 3);
        }
    }

    private static void gameBeyondTwelve() {
        Due.sentence("3: GAME: one NAME more (though they come to more than 12)");
        StringBuilder words = new StringBuilder();
        for (int n = 0; n < 6; n++) {
            words.append("c0,2,").append(n).append(";c1,2,").append(n).append(';');
        }
        LodgingNames x = Edges.laid("p0,1,30;p0,1,30;p4,0,0;n3,0;n9,0;" + Edges.times("n1,0;", 4) + words);
        due("twelve", x.count(2), 12);
        dueGame("a 13th and a 14th", x, 1, 1, 11);
        due("twelve still", x.count(2), 12);
    }

    private static void gameDays() {
        Due.sentence("3: GAME of two for n (1 to 10) DAYS. Promise 19: BAD");
        LodgingNames x = Edges.laid("p0,1,30;p0,1,30;n3,0;");
        for (int days = 1; days <= 10; days++) {
            due("behind " + days, x.game(0, 1, days, 0), 1);
        }
        Edges.refused("game(0, 1, 0, 0)", x, y -> y.game(0, 1, 0, 0), BAD);
        Edges.refused("game(0, 1, 11, 0)", x, y -> y.game(0, 1, 11, 0), BAD);
        for (int far : Edges.FAR_OFF) {
            due("game(0, 1, " + far + ", 0)", x.game(0, 1, far, 0), BAD);
        }
    }

    private static void gameBad() {
        Due.sentence("Promise 19: game: how many (what = 0), the first (1). BAD (alike, too)");
        LodgingNames x = Edges.laid("p0,1,30;p0,1,30;n3,0;n5,0;");
        due("what = 0", x.game(0, 1, 1, 0), 1);
        due("what = 1", x.game(0, 1, 1, 1), 11);
        for (int what : new int[] {-1, 2, Integer.MIN_VALUE, Integer.MAX_VALUE}) {
            Edges.refused("what = " + what, x, y -> y.game(0, 1, 1, what), BAD);
        }
        Edges.refused("alike", x, y -> y.game(0, 0, 1, 0), BAD);
        due("alike", x.game(1, 1, 1, 1), BAD);
        due("alike, and there is none such", x.game(2, 2, 1, 1), BAD);
    }

    private static void askingChangesNothing() {
        Due.sentence("Promises 14 to 19: what is asked changes nothing");
        LodgingNames x = Edges.laid("p0,1,3;p1,1,4;n3,2;n12,3;c1,0,0;c0,1,0;c0,1,1;q2;");
        x.pass(3);
        Edges.asks("behind", x, y -> y.behind(40, 1, 1));
        Edges.asks("homeless", x, y -> y.homeless(0));
        Edges.asks("load", x, y -> y.load(1, 0));
        Edges.asks("out", x, y -> y.out(1, 1, 20, 0));
        Edges.asks("rooms", x, y -> y.rooms(1));
        Edges.asks("game", x, y -> y.game(0, 1, 10, 0));
    }
}
