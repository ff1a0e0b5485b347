/** The edges of what is SEEN, of chance, years and what is KEPT, promises 20 to 28: a test for each sentence. */
public final class YearsEdgesTest {
    private static final int BAD = Edges.BAD, NO = Edges.NO, FULL = Edges.FULL, NONE = Edges.NONE;

    private YearsEdgesTest() {
    }

    public static void main(String[] args) {
        all();
        Due.end("YearsEdgesTest");
    }

    static void all() {
        seenAtMost();
        seenStout();
        seenDays();
        seeBad();
        seeBeforeFull();
        seenFromNow();
        forgotten();
        saidBits();
        saidAsItIs();
        saidFromNowOn();
        saidOfAll();
        saidBeyondTwelve();
        saidBad();
        whoseBits();
        whoseBad();
        chanceOfEach();
        chanceForItself();
        chanceCountsAsNone();
        chanceOnTheNextDay();
        chanceInLowestTerms();
        chanceOfTwelve();
        chanceBad();
        yearDraws();
        yearCuts();
        yearAlike();
        yearOfTwelve();
        yearAheadOfEach();
        yearHowMany();
        yearHowOften();
        yearDays();
        yearBad();
        keptAtMost();
        keptAsItStands();
        keptButNot();
        backToTheLast();
        backNothingUndone();
        backNone();
        counts();
        countBad();
        ordered();
        askingChangesNothing();
    }

    private static void due(String what, long got, long want) {
        Due.due(what, got, want);
    }

    private static final String TWO = "p0,2,30;p0,2,30;n3,0;n5,0;c1,0,0;";

    // ---- promises 20 to 23

    private static void seenAtMost() {
        Due.sentence("4: SEEN (6 at most). Promise 20: see: how many. FULL");
        LodgingNames x = Edges.laid(TWO);
        for (int k = 1; k <= 6; k++) {
            due("the " + k + "th", x.see(0, 0, k, k), k);
        }
        Edges.refused("a 7th", x, y -> y.see(0, 0, 7, 7), FULL);
        due("all six are so", x.said(1, 0) & 256, 256);
        x.forget();
        due("there is room again", x.see(0, 0, 20, 9), 1);
        LodgingNames z = Edges.laid(TWO);
        for (int k = 1; k <= 5; k++) {
            z.see(0, 0, k, k);
        }
        z.see(0, 0, 6, 7);
        due("the 6th counts", z.said(1, 0), 0);
    }

    private static void seenStout() {
        Due.sentence("4: SEEN is that a NAME is v (0 to 9) stout");
        for (int v = 0; v <= 9; v++) {
            LodgingNames x = Edges.laid(TWO);
            due("see(0, 0, 9, " + v + ")", x.see(0, 0, 9, v), 1);
            due("so by 9 alone", x.said(1, 0) & 256, v == 9 ? 256 : 0);
            LodgingNames y = Edges.laid(TWO);
            due("see(1, 0, 9, " + v + ")", y.see(1, 0, 9, v), 1);
            due("so by 0 alone", y.said(1, 0) & 256, v == 0 ? 256 : 0);
        }
    }

    private static void seenDays() {
        Due.sentence("4: with a PERSON behind t (1 to 20) DAYS from now");
        for (int t = 1; t <= 20; t++) {
            LodgingNames x = Edges.laid(TWO);
            x.pass(9);
            x.say(1, 0, 0);
            due("see(0, 0, " + t + ", v)", x.see(0, 0, t, Math.max(0, 9 - t)), 1);
            due("9 stout by now, thinner then", x.said(1, 0) & 256, 256);
        }
    }

    private static void seeBad() {
        Due.sentence("Promise 20: see: BAD");
        LodgingNames x = Edges.laid(TWO);
        int[][] off = {{0, 0, 0, 0}, {0, 0, 21, 0}, {0, 0, -1, 0}, {0, 0, 1, -1}, {0, 0, 1, 10}, {0, 0, 20, 10},
            {2, 0, 1, 0}, {-1, 0, 1, 0}, {0, 2, 1, 0}, {0, -1, 1, 0}};
        for (int[] o : off) {
            due("see(" + o[0] + ", " + o[1] + ", " + o[2] + ", " + o[3] + ")", x.see(o[0], o[1], o[2], o[3]), BAD);
        }
        for (int far : Edges.FAR_OFF) {
            due("far off", Math.max(x.see(0, 0, far, 0), x.see(0, 0, 1, far)), BAD);
        }
        Edges.refused("see(0, 0, 21, 9)", x, y -> y.see(0, 0, 21, 9), BAD);
        due("nothing is SEEN", x.count(7), 0);
    }

    private static void seeBeforeFull() {
        Due.sentence("Promise 20: see: BAD ahead of FULL");
        LodgingNames x = Edges.laid(TWO);
        for (int k = 0; k < 6; k++) {
            x.see(0, 0, 1, 1);
        }
        due("no day", x.see(0, 0, 0, 0), BAD);
        due("21 days", x.see(0, 0, 21, 0), BAD);
        due("10 stout", x.see(0, 0, 1, 10), BAD);
        due("no such PERSON", x.see(2, 0, 1, 0), BAD);
        due("no such NAME", x.see(0, 2, 1, 0), BAD);
        due("six", x.count(7), 6);
    }

    private static void seenFromNow() {
        Due.sentence("4: (now: as it stands when that is asked)");
        LodgingNames x = Edges.laid(TWO);
        x.see(0, 0, 2, 2);
        due("two days by 1", x.said(1, 0) & 256, 256);
        x.pass(1);
        due("three by then", x.said(1, 0) & 256, 0);
        x.undo();
        due("two again", x.said(1, 0) & 256, 256);
        x.say(1, 0, 0);
        due("none by then", x.said(1, 0) & 256, 0);
        due("by 1 it would be so", x.said(1, 0), 1);
        x.pass(5);
        x.forget();
        x.see(0, 1, 1, 0);
        x.see(0, 0, 1, 0);
        due("five days later", x.said(1, 0) & 256, 256);
        x.say(1, 0, 1);
        due("one day from then", x.said(1, 0) & 256, 0);
        x.forget();
        x.see(0, 1, 2, 2);
        due("two days from then", x.said(1, 0) & 256, 256);
    }

    private static void forgotten() {
        Due.sentence("Promise 21: forget: Nothing is SEEN: how many were");
        LodgingNames x = Edges.laid(TWO);
        for (int many = 0; many <= 6; many++) {
            for (int k = 0; k < many; k++) {
                x.see(0, 0, 1, 9);
            }
            due("so many", x.forget(), many);
            due("nothing", x.count(7), 0);
            due("nothing", x.forget(), 0);
        }
        due("all that is SEEN is so", x.said(1, 0), 256 + 3);
    }

    private static void saidBits() {
        Due.sentence("4: SAID by one of another: those NAMES (bits)");
        for (int names = 1; names <= 8; names++) {
            LodgingNames x = Edges.laid("p0,5,30;p0,5,30;" + Edges.times("n5,0;", names));
            due("any of " + names, x.said(0, 1), 256 + (1 << names) - 1);
            for (int n = 0; n < names; n++) {
                x.see(1, n, 1, 1);
                due("NAME " + n, x.said(0, 1), 1 << n);
                due("the other way", x.said(1, 0), 0);
                x.forget();
            }
        }
    }

    private static void saidAsItIs() {
        Due.sentence("4: 256 more, if it is so as it is");
        LodgingNames x = Edges.laid(TWO);
        x.see(0, 0, 3, 3);
        due("as it is, by 0 once more, and by 1", x.said(1, 0), 256 + 3);
        x.see(0, 1, 3, 0);
        due("but not by 1", x.said(1, 0), 256 + 1);
        x.forget();
        x.see(0, 1, 3, 3);
        due("not as it is", x.said(1, 0), 2);
        x.see(0, 1, 4, 3);
        due("in no way", x.said(1, 0), 0);
    }

    private static void saidFromNowOn() {
        Due.sentence("4: CALLED he him by that one, too, from now on");
        LodgingNames x = Edges.laid("p0,2,30;p0,2,30;p0,2,30;n3,0;n5,0;c2,0,0;");
        x.see(0, 0, 1, 2);
        x.see(0, 0, 2, 4);
        x.see(0, 0, 4, 8);
        x.see(0, 0, 20, 9);
        due("by two on each DAY", x.said(1, 0), 1);
        due("2 CALLS him so already", x.said(2, 0), 0);
        due("of 1", x.said(0, 1), 0);
        due("he is called by none then", x.count(2), 1);
        x.see(0, 1, 20, 0);
        due("and not by 1", x.said(1, 0), 1);
        x.forget();
        x.see(0, 0, 1, 1);
        due("by 0, as he CALLS him already, and by 1", x.said(2, 0), 256 + 3);
        due("by 1 it would be more", x.said(1, 0), 256 + 2);
    }

    private static void saidOfAll() {
        Due.sentence("4: such that all that is SEEN would be so");
        LodgingNames x = Edges.laid("p0,1,30;p0,2,30;n3,0;n5,0;n7,0;c1,0,0;");
        x.see(0, 0, 1, 0);
        due("driven out by 1 or 2", x.said(1, 0), 6);
        x.see(0, 1, 1, 1);
        due("1 is there", x.said(1, 0), 2);
        x.see(1, 2, 5, 0);
        due("with the other one it is so in any case", x.said(1, 0), 2);
        x.say(0, 1, 2);
        due("it is not so with the other one", x.said(1, 0), 0);
        x.forget();
        x.see(1, 2, 5, 5);
        x.see(0, 0, 5, 0);
        due("both are so: with the other one in any case", x.said(1, 0), 6);
        due("not with the other one by him", x.said(0, 1), 0);
        x.see(1, 2, 5, 4);
        due("both can't be", x.said(1, 0), 0);
    }

    private static void saidBeyondTwelve() {
        Due.sentence("4: SAID (though they come to more than 12 WORDS)");
        StringBuilder words = new StringBuilder();
        for (int n = 0; n < 6; n++) {
            words.append("c0,2,").append(n).append(";c1,2,").append(n).append(';');
        }
        LodgingNames x = Edges.laid("p0,1,30;p0,1,30;p4,0,0;" + Edges.times("n3,0;", 6) + words);
        x.see(1, 4, 1, 1);
        due("a 13th", x.said(0, 1), 16);
        due("twelve still", x.count(2), 12);
    }

    private static void saidBad() {
        Due.sentence("Promise 22: said: BAD (alike, too)");
        LodgingNames x = Edges.laid(TWO);
        Edges.refused("alike", x, y -> y.said(0, 0), BAD);
        due("alike", x.said(1, 1), BAD);
        for (int off : new int[] {-1, 2, 6, Integer.MIN_VALUE, Integer.MAX_VALUE}) {
            due("said(" + off + ", 0)", x.said(off, 0), BAD);
            due("said(0, " + off + ")", x.said(0, off), BAD);
            due("alike, and there is none such", x.said(off, off), BAD);
        }
    }

    private static void whoseBits() {
        Due.sentence("4: WHOSE of a NAME with a PERSON: who CALL him by it (bits)");
        String all = Edges.times("p0,1,30;", 6) + Edges.times("n3,0;", 8);
        for (int n = 0; n < 8; n++) {
            LodgingNames x = Edges.laid(all);
            int bits = 0;
            for (int i = 1; i < 6; i++) {
                due("ahead", x.whose(0, n), bits);
                x.say(i, 0, n);
                bits += 1 << i;
            }
            due("by all five", x.whose(0, n), 62);
            due("by no other NAME", x.whose(0, n == 0 ? 7 : n - 1), 0);
            due("of no other PERSON", x.whose(1, n), 0);
            x.say(0, 5, n);
            due("by 0", x.whose(5, n), 1);
            x.say(1, 0, n);
            due("no more by 1", x.whose(0, n), 60);
        }
    }

    private static void whoseBad() {
        Due.sentence("Promise 23: whose: BAD");
        LodgingNames x = Edges.laid(TWO);
        Edges.refused("whose(2, 0)", x, y -> y.whose(2, 0), BAD);
        Edges.refused("whose(0, 2)", x, y -> y.whose(0, 2), BAD);
        for (int off : new int[] {-1, 6, 8, Integer.MIN_VALUE, Integer.MAX_VALUE}) {
            due("whose(" + off + ", 0)", x.whose(off, 0), BAD);
            due("whose(0, " + off + ")", x.whose(0, off), BAD);
        }
    }

    // ---- promise 24

    private static void dueChance(String what, LodgingNames x, int n, int tenths, long above, long below) {
        due(what + ", above", x.chance(0, n, tenths, 0), above);
        due(what + ", below", x.chance(0, n, tenths, 1), below);
    }

    private static void chanceOfEach() {
        Due.sentence("4: CHANCE: each WORD is said by x (0 to 10) of ten");
        int[][] due = {{0, 1}, {1, 10}, {1, 5}, {3, 10}, {2, 5}, {1, 2}, {3, 5}, {7, 10}, {4, 5}, {9, 10}, {1, 1}};
        for (int x = 0; x <= 10; x++) {
            dueChance("one WORD by " + x, Edges.laid("p0,1,30;p0,1,30;n3,0;c1,0,0;"), 0, x, due[x][0], due[x][1]);
        }
        LodgingNames five = Edges.laid("p0,1,30;" + Edges.times("p0,1,30;", 5) + "n3,0;c1,0,0;c2,0,0;c3,0,0;c4,0,0;c5,0,0;");
        dueChance("one of five by 5", five, 0, 5, 31, 32);
        dueChance("one of five by 1", five, 0, 1, 40951, 100000);
        dueChance("one of five by 0", five, 0, 0, 0, 1);
        dueChance("one of five by 10", five, 0, 10, 1, 1);
    }

    private static void chanceForItself() {
        Due.sentence("4: CHANCE: for itself");
        LodgingNames x = Edges.laid("p0,1,30;p0,1,30;p0,1,30;n3,0;n5,0;c1,0,0;c1,0,1;");
        dueChance("0 said and 1 not, by 3", x, 0, 3, 21, 100);
        dueChance("1 said", x, 1, 3, 3, 10);
        x.say(2, 0, 0);
        dueChance("0 said by one or both and 1 not, by 3", x, 0, 3, 357, 1000);
        x.say(0, 1, 0);
        dueChance("what is said of another one is no matter", x, 0, 3, 357, 1000);
        LodgingNames y = Edges.laid("p0,0,0;p0,1,30;p0,0,0;n3,0;n5,0;c0,1,0;c2,1,0;");
        due("by 0 or 2, above", y.chance(1, 0, 3, 0), 51);
        due("by 0 or 2, below", y.chance(1, 0, 3, 1), 100);
    }

    private static void chanceCountsAsNone() {
        Due.sentence("4: CHANCE: (else it counts as none)");
        LodgingNames x = Edges.laid("p0,1,30;p0,1,30;n3,0;c1,0,0;");
        x.pass(1);
        dueChance("1 stout, stays if it is said", x, 0, 3, 3, 10);
        x.pass(1);
        dueChance("2 stout, stays in any case", x, 0, 3, 1, 1);
        LodgingNames y = Edges.laid("p3,1,30;p0,1,30;n3,0;c1,0,0;");
        y.pass(2);
        dueChance("2 stout with a MENDER", y, 0, 3, 3, 10);
        y.pass(1);
        dueChance("3 stout with a MENDER", y, 0, 3, 1, 1);
        LodgingNames z = Edges.laid("p2,2,30;p0,1,30;n3,0;n5,0;q1;c1,0,0;c1,0,1;");
        dueChance("with a CURATE 0 is no matter if it is not said", z, 1, 4, 6, 25);
    }

    private static void chanceOnTheNextDay() {
        Due.sentence("4: CHANCE: on the next DAY: that a NAME lodges with a PERSON behind it");
        LodgingNames x = Edges.laid("p0,1,0;p0,1,0;p0,1,0;n3,1;n4,0;c1,0,0;c2,0,0;");
        dueChance("hungry, stays if both say it, by 5", x, 0, 5, 1, 4);
        dueChance("one that nobody says", x, 1, 5, 0, 1);
        LodgingNames y = Edges.laid("p0,1,30;p0,1,30;n3,0;n4,0;c1,0,0;");
        y.pass(2);
        y.say(1, 0, 0);
        dueChance("nobody says it, 2 stout", y, 0, 5, 1, 1);
        y.mend(0);
        dueChance("nobody says it, 1 stout", y, 0, 5, 0, 1);
        LodgingNames z = Edges.laid("p0,1,30;p0,1,30;n3,0;n4,0;c1,0,1;");
        z.pass(9);
        z.say(1, 0, 0);
        dueChance("full, but by one less UNKIND", z, 0, 10, 0, 1);
    }

    private static void chanceInLowestTerms() {
        Due.sentence("4: CHANCE: in lowest terms. Promise 24: above (part = 0), below (1)");
        LodgingNames x = Edges.laid("p0,1,30;p0,1,30;p0,1,30;n3,0;n5,0;c1,0,0;c2,0,0;");
        dueChance("36 of 100", x, 0, 2, 9, 25);
        dueChance("75 of 100", x, 0, 5, 3, 4);
        dueChance("84 of 100", x, 0, 6, 21, 25);
        dueChance("96 of 100", x, 0, 8, 24, 25);
        dueChance("51 of 100", x, 0, 3, 51, 100);
        dueChance("0 of 100", x, 1, 3, 0, 1);
        dueChance("no WORD of him", Edges.laid("p0,1,30;n3,0;"), 0, 3, 0, 1);
    }

    private static void chanceOfTwelve() {
        Due.sentence("4: CHANCE: of 12 WORDS of one");
        String words = "c1,0,0;c2,0,0;c3,0,0;c1,0,1;c2,0,1;c3,0,1;c1,0,2;c2,0,2;c3,0,2;c1,0,3;c2,0,3;c3,0,3;";
        LodgingNames x = Edges.laid("p0,1,30;p0,0,0;p0,0,0;p0,0,0;n0,0;n0,0;n0,0;n0,0;" + words);
        // Nine not said, and one of three at least: 0.9 to the 9th, times 0.271.
        dueChance("the last one by 1", x, 3, 1, 104990952519L, 1000000000000L);
        dueChance("the first one by 1", x, 0, 1, 271, 1000);
        dueChance("the last one by 0", x, 3, 0, 0, 1);
        dueChance("the last one by 10", x, 3, 10, 0, 1);
        dueChance("the first one by 10", x, 0, 10, 1, 1);
        LodgingNames y = Edges.laid("p0,1,30;p0,0,0;p0,0,0;p0,0,0;n5,0;n5,0;n5,0;n5,0;n0,0;c1,0,4;");
        y.pass(2);
        y.say(1, 0, 4);
        for (int k = 0; k < 12; k++) {
            y.say(1 + k % 3, 0, k / 3);
        }
        // It stays, 1 thinner, if none of twelve is said: 0.9 to the 12th, which is 3 to the 24th.
        dueChance("one that each would drive out by 1", y, 4, 1, 282429536481L, 1000000000000L);
        dueChance("one that each would drive out by 5", y, 4, 5, 1, 4096);
        dueChance("one that each would drive out by 0", y, 4, 0, 1, 1);
    }

    private static void chanceBad() {
        Due.sentence("Promise 24: chance: BAD");
        LodgingNames x = Edges.laid(TWO);
        Edges.refused("x = -1", x, y -> y.chance(0, 0, -1, 0), BAD);
        Edges.refused("x = 11", x, y -> y.chance(0, 0, 11, 0), BAD);
        Edges.refused("part = -1", x, y -> y.chance(0, 0, 5, -1), BAD);
        Edges.refused("part = 2", x, y -> y.chance(0, 0, 5, 2), BAD);
        for (int far : Edges.FAR_OFF) {
            due("x = " + far, x.chance(0, 0, far, 0), BAD);
            due("part = " + far, x.chance(0, 0, 5, far), BAD);
            due("PERSON " + far, x.chance(far, 0, 5, 1), BAD);
            due("NAME " + far, x.chance(0, far, 5, 1), BAD);
        }
    }

    // ---- promise 25

    // By z 0 DRAW is 1 for the 0th PERSON, for x is 1; 41487 for the 1st one, for x is 6152. By z
    // 9999 x is 79182082, which is 32714 modulo 65521, the square of which is 51303.

    private static void dueYear(String what, LodgingNames x, int z, int n, int lodge, int noBeds) {
        due(what + ", how many", x.year(z, n, 0), lodge);
        due(what + ", how often", x.year(z, n, 1), noBeds);
    }

    private static void yearDraws() {
        Due.sentence("4: DRAW being (x times x) modulo 65521, x 7919 z, 6151 k and 1 together");
        // DRAW 1: 1 takes up 0 by 0. Of 41487, 648 and 5185: 1 takes up 0 by 0 of one NAME, by 1 of two.
        dueYear("z 0, one DAY", Edges.laid("p0,1,30;p0,0,30;n3,0;"), 0, 1, 1, 0);
        dueYear("z 0, the word is dropped", Edges.laid("p0,1,30;p0,0,30;n3,0;"), 0, 2, 0, 0);
        dueYear("z 0, the other word is taken up", Edges.laid("p0,2,30;p0,0,30;n3,0;n3,0;"), 0, 2, 2, 0);
        dueYear("z 0, name 0 comes", Edges.laid("p0,1,0;p0,0,30;n3,0;n3,9;"), 0, 1, 1, 0);
        dueYear("z 0, name 1 would leave hungry", Edges.laid("p0,1,0;p0,0,30;n3,9;n3,0;"), 0, 1, 0, 0);
        // x is 7920: 62726400 less 957 times 65521 is 22803: 3 of six, 356 is 2 of six, 2850 is 2 of eight.
        LodgingNames x = Edges.laid("p0,0,0;p0,0,0;p0,1,1;p0,0,0;p0,0,0;p0,0,0;n1,9;n1,9;n1,1;" + Edges.times("n1,9;", 5));
        dueYear("z 1: 3 takes up 2 by 2", x, 1, 1, 1, 0);
        x.say(3, 2, 2);
        dueYear("z 1: 3 drops 2 by 2", x, 1, 1, 0, 0);
    }

    private static void yearCuts() {
        Due.sentence("4: PERSON (DRAW by 64, cut) modulo as many by NAME (DRAW by 8, cut) modulo as many");
        // 51303: 3 of five; by 64 it is 801 and some, 1 of five; by 8 it is 6412 and some, 2 of five.
        String five = "p0,0,0;p0,1,1;p0,0,0;p0,0,0;p0,0,0;";
        LodgingNames x = Edges.laid(five + "n1,9;n1,9;n1,1;n1,9;n1,9;");
        dueYear("3 takes up 1 by 2", x, 9999, 1, 1, 0);
        x.say(3, 1, 2);
        dueYear("3 drops 1 by 2", x, 9999, 1, 0, 0);
        LodgingNames y = Edges.laid(five + "n1,9;n1,9;n1,1;n1,9;n1,9;c2,1,2;");
        dueYear("3 by 2, so does 2: two stout", y, 9999, 1, 1, 0);
        // Of three NAMES it is 1, of seven 0, of eight 4.
        dueYear("1 of three", Edges.laid(five + "n1,9;n1,1;n1,9;"), 9999, 1, 1, 0);
        dueYear("0 of seven", Edges.laid(five + "n1,1;" + Edges.times("n1,9;", 6)), 9999, 1, 1, 0);
        dueYear("4 of eight", Edges.laid(five + Edges.times("n1,9;", 4) + "n1,1;" + Edges.times("n1,9;", 3)), 9999, 1, 1, 0);
    }

    private static void yearAlike() {
        Due.sentence("4: if both are unlike");
        // 51303 is 3 of six, and so is 801.
        LodgingNames x = Edges.laid(Edges.times("p0,1,30;", 6) + "n1,1;");
        dueYear("3 and 3", x, 9999, 1, 0, 0);
        dueYear("0 and 0", Edges.laid("p0,1,30;n1,1;"), 0, 60, 0, 0);
        dueYear("0 and 0 without BEDS", Edges.laid("p0,0,30;n1,1;"), 9999, 60, 0, 0);
    }

    private static void yearOfTwelve() {
        Due.sentence("4: and it can be (12 WORDS at most)");
        // 1 would take up 0 by 0 on the first DAY.
        String port = "p0,1,30;p0,0,30;" + Edges.times("n1,0;", 7);
        String of0 = "c1,0,1;c1,0,2;c1,0,3;c1,0,4;c1,0,5;";
        String of1 = "c0,1,0;c0,1,1;c0,1,2;c0,1,3;c0,1,4;";
        dueYear("a 13th is not taken up", Edges.laid(port + of0 + "c1,0,6;" + of1 + "c0,1,5;"), 0, 1, 1, 5 + 6);
        dueYear("a 12th is", Edges.laid(port + of0 + "c1,0,6;" + of1), 0, 1, 1, 6 + 5);
        dueYear("one of twelve is dropped", Edges.laid(port + "c1,0,0;" + of0 + of1 + "c0,1,5;"), 0, 1, 1, 4 + 6);
    }

    private static void yearAheadOfEach() {
        Due.sentence("4: A YEAR by z of n DAYS from now on: ahead of the k-th (0 first)");
        LodgingNames x = Edges.laid("p0,1,30;p0,0,30;n3,0;c1,0,0;");
        dueYear("dropped ahead of the first DAY", x, 0, 1, 0, 0);
        dueYear("taken up ahead of the second one", x, 0, 2, 1, 0);
        // DRAW is 1 for the 0th, by which it is 0; 41487 for the 1st, by which it is 1 of two.
        LodgingNames y = Edges.laid("p0,2,0;p0,0,30;n3,0;n3,9;");
        dueYear("0 for the 0th", y, 0, 1, 1, 0);
        LodgingNames z = Edges.laid("p0,2,0;p0,0,30;n3,9;n3,0;");
        dueYear("0 is gone hungry", z, 0, 1, 0, 0);
        x.pass(1);
        dueYear("from now on: 1 stout, dropped", x, 0, 1, 0, 0);
        x.pass(1);
        dueYear("from now on: 2 stout, dropped", x, 0, 1, 1, 0);
    }

    private static void yearHowMany() {
        Due.sentence("4: how many lodge anywhere then (a NAME with each PERSON with whom it does)");
        LodgingNames x = Edges.laid("p0,1,30;p0,1,30;p0,1,30;n3,0;c0,1,0;c0,2,0;");
        // DRAW 1 of three: 1 takes up 0 by 0.
        dueYear("one NAME with three", x, 0, 1, 3, 0);
        LodgingNames y = Edges.laid("p0,3,30;p0,1,30;n3,0;n4,0;n5,0;c1,0,1;c1,0,2;");
        dueYear("three NAMES with one", y, 0, 1, 3, 0);
    }

    private static void yearHowOften() {
        Due.sentence("4: how often one had NO BED in these DAYS");
        LodgingNames x = Edges.laid("p0,0,30;p0,0,30;n3,0;");
        dueYear("on the first DAY", x, 0, 1, 0, 1);
        dueYear("but not on the second", x, 0, 2, 0, 1);
        x.say(1, 0, 0);
        x.pass(20);
        due("twenty ahead", x.count(5), 20);
        dueYear("those ahead don't count", x, 0, 1, 0, 0);
        dueYear("on the second DAY", x, 0, 2, 0, 1);
        LodgingNames y = Edges.laid("p0,0,30;p0,0,30;p0,0,30;n3,0;n3,0;c0,1,0;c0,1,1;c0,2,0;");
        dueYear("three, and one more by DRAW", y, 0, 1, 0, 4);
    }

    private static void yearDays() {
        Due.sentence("4: A YEAR by z (0 to 9999) of n (1 to 60) DAYS");
        Model model = new Model();
        LodgingNames x = new LodgingNames();
        for (int z : new int[] {0, 1, 4711, 9998, 9999}) {
            for (int n : new int[] {1, 2, 3, 59, 60}) {
                String year = "z " + z + ", " + n + " DAYS";
                dueYear(year, x, z, n, model.year(z, n, 0), model.year(z, n, 1));
            }
        }
        // What the model says of the longest one, written down.
        dueYear("z 5, 60 DAYS", x, 5, 60, 7, 41);
    }

    private static void yearBad() {
        Due.sentence("Promise 25: year: how many (what = 0), how often (1). BAD");
        LodgingNames x = Edges.laid(TWO);
        int[][] off = {{-1, 1, 0}, {10000, 1, 0}, {0, 0, 0}, {0, 61, 0}, {0, -1, 0}, {0, 1, -1}, {0, 1, 2}, {9999, 60, 2}};
        for (int[] o : off) {
            due("year(" + o[0] + ", " + o[1] + ", " + o[2] + ")", x.year(o[0], o[1], o[2]), BAD);
        }
        for (int far : new int[] {Integer.MIN_VALUE, Integer.MAX_VALUE}) {
            due("far off", Math.max(x.year(far, 1, 0), Math.max(x.year(0, far, 0), x.year(0, 1, far))), BAD);
        }
        Edges.refused("year(10000, 61, 2)", x, y -> y.year(10000, 61, 2), BAD);
    }

    // ---- promises 26 to 28

    private static void keptAtMost() {
        Due.sentence("4: KEPT: 2 at most. Promise 26: keep: how many. FULL");
        LodgingNames x = Edges.laid(TWO);
        due("one", x.keep(), 1);
        x.pass(1);
        due("two", x.keep(), 2);
        x.pass(1);
        Edges.refused("a third", x, y -> y.keep(), FULL);
        due("the second is as it was", x.back() + 10 * x.count(4), 11);
        due("room again", x.keep(), 2);
        x.back();
        due("the first is as it was", x.back() + 10 * x.count(4), 0);
        for (int k = 0; k < 5; k++) {
            due("one", x.keep(), 1);
            due("two", x.keep(), 2);
            due("a third", x.keep(), FULL);
            due("one is left", x.back(), 1);
            due("none is left", x.back(), 0);
        }
    }

    private static void keptAsItStands() {
        Due.sentence("4: KEPT is all as it stands");
        LodgingNames x = Edges.laid("p0,1,3;p1,1,4;n3,2;n12,3;c1,0,0;c1,0,1;c0,1,1;q2;");
        x.pass(3);
        x.mend(1);
        x.say(0, 1, 0);
        // Behind back() nothing can be UNDONE, so that it has to be so ahead, too.
        x.keep();
        x.back();
        String before = Edges.picture(x);
        x.keep();
        x.pass(20);
        x.mend(0);
        x.say(0, 1, 0);
        x.say(1, 0, 0);
        x.back();
        due("all as it stood", Edges.picture(x).equals(before) ? 1 : 0, 1);
        LodgingNames y = Edges.laid("p0,1,30;p0,0,0;n3,0;n5,0;c1,0,0;c1,0,1;");
        y.pass(4);
        y.keep();
        y.pass(4);
        y.say(1, 0, 1);
        y.back();
        due("stout", Edges.stouts(y, 0), 4);
        due("DAYS", y.count(4), 4);
        due("without a BED", y.count(5), 3);
        due("WORDS", y.calls(1, 0, 1), 1);
    }

    private static void keptButNot() {
        Due.sentence("4: but what is SEEN and THE TEXT (these stay by back()");
        LodgingNames x = new LodgingNames();
        x.see(0, 0, 1, 9);
        x.write('q');
        x.keep();
        due("SEEN stays by keep()", x.count(7), 1);
        due("THE TEXT stays by keep()", x.count(10), 1);
        x.forget();
        x.see(1, 0, 1, 2);
        x.see(1, 0, 2, 4);
        x.wipe();
        Edges.write(x, "q6;");
        x.pass(2);
        due("back()", x.back(), 0);
        due("SEEN as it is by now", x.count(7), 2);
        due("and what", x.said(2, 3) & 256, 256);
        due("THE TEXT as it is by now", x.count(10), 3);
        due("and which", x.fault(), NONE);
    }

    private static void backToTheLast() {
        Due.sentence("Promise 27: back: As KEPT last (it is KEPT no more then): how many are left");
        LodgingNames x = Edges.laid(TWO);
        x.pass(1);
        x.keep();
        x.pass(2);
        x.keep();
        x.pass(4);
        due("one is left", x.back(), 1);
        due("as KEPT last", x.count(4), 3);
        due("one", x.count(9), 1);
        x.pass(8);
        due("none is left", x.back(), 0);
        due("as KEPT first", x.count(4), 1);
        due("no more", x.back(), NO);
        x.keep();
        x.pass(1);
        due("undo()", x.undo(), 0);
        due("KEPT stays by undo()", x.count(9), 1);
        due("as KEPT", x.back(), 0);
    }

    private static void backNothingUndone() {
        Due.sentence("4: back(), behind which nothing can be UNDONE. Promise 27: nothing is UNDONE then");
        LodgingNames x = Edges.laid(TWO);
        x.pass(1);
        x.pass(1);
        x.keep();
        due("keep() leaves what can be UNDONE", x.count(8), 2);
        due("and it can be", x.undo(), 1);
        x.say(0, 1, 0);
        due("back()", x.back(), 0);
        due("nothing", x.count(8), 0);
        due("undo()", x.undo(), NO);
        x.mend(0);
        due("but what comes then", x.count(8), 1);
        due("undo()", x.undo(), 0);
        due("two stout again", x.stout(0, 0), 2);
        due("undo()", x.undo(), NO);
    }

    private static void backNone() {
        Due.sentence("Promise 27: back: NO");
        LodgingNames x = Edges.laid(TWO);
        x.pass(2);
        Edges.refused("none KEPT", x, y -> y.back(), NO);
        due("what can be UNDONE stays", x.count(8), 1);
        x.keep();
        x.lay();
        x.pass(1);
        Edges.refused("KEPT ahead of lay()", x, y -> y.back(), NO);
    }

    private static void counts() {
        Due.sentence("Promise 28: count: 0 PERSONS, 1 NAMES, .. 10 letters of THE TEXT");
        LodgingNames x = Edges.laid("p0,1,30;p0,1,30;p0,1,30;n3,0;n5,0;c1,0,0;c2,0,1;c0,1,0;q11;");
        x.pass(2);
        x.pass(3);
        x.say(2, 1, 0);
        x.see(0, 0, 1, 0);
        x.keep();
        x.keep();
        int[] due = {3, 2, 4, 2, 5, 4, 11, 1, 3, 2, 59};
        for (int what = 0; what < due.length; what++) {
            due("count(" + what + ")", x.count(what), due[what]);
        }
    }

    private static void countBad() {
        Due.sentence("Promise 28: count: BAD");
        LodgingNames x = Edges.laid(TWO);
        Edges.refused("count(-1)", x, y -> y.count(-1), BAD);
        Edges.refused("count(11)", x, y -> y.count(11), BAD);
        for (int far : Edges.FAR_OFF) {
            due("count(" + far + ")", x.count(far), BAD);
        }
    }

    private static void ordered() {
        Due.sentence("Terms: BAD, NO, NONE, FULL: Of several the first in this order, whatever the order at a call");
        due("BAD", LodgingNames.BAD, -1);
        due("NO", LodgingNames.NO, -2);
        due("FULL", LodgingNames.FULL, -3);
        due("NONE", LodgingNames.NONE, -4);
        LodgingNames x = Edges.laid("p0,1,30;p0,0,0;n3,0;n4,0;c1,0,0;");
        x.pass(9);
        due("out: NONE", x.out(1, 0, 1, 1), NONE);
        due("out: BAD ahead of NONE", x.out(1, 0, 1, 3), BAD);
        due("homeless: NONE", x.homeless(0), NONE);
        due("homeless: BAD ahead of NONE", x.homeless(2), BAD);
        Edges.write(x, Edges.times("x", 200 - x.count(10)));
        due("write: FULL", x.write('x'), FULL);
        due("write: BAD ahead of FULL", x.write(0), BAD);
    }

    private static void askingChangesNothing() {
        Due.sentence("Promises 22 to 25: what is asked changes nothing");
        LodgingNames x = Edges.laid("p0,1,3;p1,1,4;n3,2;n12,3;c1,0,0;c0,1,0;c0,1,1;q2;");
        x.pass(3);
        x.see(0, 1, 20, 9);
        x.keep();
        Edges.asks("said", x, y -> y.said(0, 1));
        Edges.asks("whose", x, y -> y.whose(1, 0));
        Edges.asks("chance", x, y -> y.chance(1, 0, 5, 0));
        Edges.asks("year", x, y -> y.year(9999, 60, 0));
        Edges.asks("count", x, y -> y.count(3));
    }
}
