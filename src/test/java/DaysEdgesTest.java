/** The edges of days, words and mending, and promises 10 to 13: a test for each sentence. */
public final class DaysEdgesTest {
    private static final int BAD = Edges.BAD, NO = Edges.NO, FULL = Edges.FULL, NONE = Edges.NONE;

    private DaysEdgesTest() {
    }

    public static void main(String[] args) {
        all();
        Due.end("DaysEdgesTest");
    }

    static void all() {
        harbourmaster();
        childLodgesNobody();
        childLeavesNobodyWithout();
        personsInOrder();
        namesInOrder();
        callersCounted();
        nineAtMost();
        oneThinner();
        twoThinnerWithAMender();
        leavesInItsTurn();
        comesOnlyIfCalled();
        comesSoStout();
        fewerThanBeds();
        inPlaceOfOneLessUnkind();
        ofSeveralTheHighest();
        leavesForAnother();
        noBed();
        noBedWithoutBeds();
        curateByHowFarApart();
        curateByAny();
        curateInPlaceOfAnother();
        quarrelsElsewhere();
        hungryByMoreThanThereIs();
        hungryBehindAllNames();
        stoutestIsThinner();
        ofSeveralTheLowest();
        oneThinnerByHunger();
        hungerDrivesOut();
        wordsTakenUpAndDropped();
        mendingThins();
        mendingDrivesOut();
        undoneAsOne();
        undoneOfEach();
        undoneEight();
        daysToPass();
        daysInAll();
        sayBad();
        sayFull();
        sayBeforeFull();
        mendHowMany();
        mendBad();
        undoHowMany();
        undoNone();
    }

    private static void due(String what, long got, long want) {
        Due.due(what, got, want);
    }

    /** PERSON 0 is told so, with five who can call him and have no BEDS themselves. */
    private static LodgingNames port(String host, String names) {
        return Edges.laid(host + Edges.times("p0,0,0;", 5) + names);
    }

    /** So many take up, or drop, this NAME for PERSON 0. */
    private static void say(LodgingNames x, int n, int many) {
        for (int i = 1; i <= many; i++) {
            if (x.say(i, 0, n) < 0) {
                due("say(" + i + ", 0, " + n + ")", 0, 1);
            }
        }
    }

    private static int behindADay(LodgingNames x) {
        x.pass(1);
        return Edges.stouts(x, 0);
    }

    // ---- 2: who has how many BEDS

    private static LodgingNames crowd(int kind, int beds) {
        LodgingNames x = port("p" + kind + "," + beds + ",30;", Edges.times("n5,0;", 8));
        for (int n = 0; n < 8; n++) {
            say(x, n, 1);
        }
        x.pass(1);
        return x;
    }

    private static void harbourmaster() {
        Due.sentence("2: A HARBOURMASTER has twice as many BEDS");
        for (int beds = 0; beds <= 5; beds++) {
            int lodge = Math.min(8, 2 * beds);
            due("lodge by " + beds, crowd(1, beds).count(3), lodge);
            due("NO BED by " + beds, crowd(1, beds).count(5), 8 - lodge);
            due("lodge with a PLAIN one by " + beds, crowd(0, beds).count(3), beds);
        }
    }

    private static void childLodgesNobody() {
        Due.sentence("2: With a CHILD nobody ever lodges");
        LodgingNames x = crowd(4, 5);
        due("by five BEDS", x.count(3), 0);
        x.pass(20);
        due("behind 21 days", x.count(3), 0);
        due("stout", x.stout(0, 0), 0);
        due("BEHIND", x.behind(40, 0, 0), 0);
        due("LOAD", x.load(0, 0), 0);
        due("ROOMS", x.rooms(0), 0);
        due("OUT", x.out(0, 0, 1, 0), 0);
        due("CHANCE", x.chance(0, 0, 10, 0), 0);
        due("CHANCE", x.chance(0, 0, 10, 1), 1);
        due("mend", x.mend(0), 0);
        due("HUNGRY", x.person(0, 4), 0);
    }

    private static void childLeavesNobodyWithout() {
        Due.sentence("2: nor is without a BED (with a CHILD)");
        LodgingNames x = crowd(4, 0);
        x.pass(20);
        due("by no BED", x.count(5), 0);
        due("HOMELESS", x.homeless(0), NONE);
        due("on which DAY", x.homeless(1), NONE);
        due("in a YEAR of one CHILD", Edges.laid("p4,0,0;p4,0,0;n1,0;").year(0, 1, 1), 0);
    }

    // ---- 2: a DAY

    private static void personsInOrder() {
        Due.sentence("2: A DAY, PERSONS 0 first");
        LodgingNames x = Edges.laid("p0,0,9;p0,0,9;p0,0,9;n1,1;n2,1;c0,2,0;c0,1,1;c1,0,1;");
        due("0 ahead of 1 and 2", x.homeless(0), 1);
        x.say(1, 0, 1);
        due("1 ahead of 2", x.homeless(0), 11);
        x.say(0, 1, 1);
        due("then 2", x.homeless(0), 20);
    }

    private static void namesInOrder() {
        Due.sentence("2: NAMES 0 first of each");
        LodgingNames x = port("p0,1,30;", "n5,0;n5,0;n5,0;");
        say(x, 2, 1);
        say(x, 1, 1);
        due("1 ahead of 2", behindADay(x), 10);
        LodgingNames y = port("p0,1,30;", "n5,0;n5,0;n5,0;");
        say(y, 2, 1);
        say(y, 0, 1);
        due("0 ahead of 2", behindADay(y), 100);
    }

    private static void callersCounted() {
        Due.sentence("2: W are those who CALL him by it");
        for (int w = 1; w <= 5; w++) {
            LodgingNames x = port("p0,1,30;", "n5,0;n5,0;");
            say(x, 1, w);
            due("W = " + w, behindADay(x), w);
            x.say(w, 0, 1);
            due("and one fewer", behindADay(x), w > 1 ? Math.min(9, w + w - 1) : 0);
        }
        LodgingNames y = Edges.laid("p0,1,30;p0,1,30;p0,1,30;n5,0;n5,0;c0,1,0;c1,2,0;c1,0,1;");
        due("who CALL another one don't count", behindADay(y), 1);
    }

    private static void nineAtMost() {
        Due.sentence("2: it is W stouter (9 at most)");
        int[][] days = {{1, 2, 3, 4, 5, 6, 7, 8, 9, 9, 9}, {2, 4, 6, 8, 9, 9}, {3, 6, 9, 9}, {4, 8, 9, 9}, {5, 9, 9}};
        for (int w = 1; w <= 5; w++) {
            LodgingNames x = port("p0,1,30;", "n5,0;");
            say(x, 0, w);
            for (int want : days[w - 1]) {
                due("by " + w, behindADay(x), want);
            }
            say(x, 0, w);
            due("thinner from 9", behindADay(x), 8);
        }
    }

    private static void oneThinner() {
        Due.sentence("2: if W is above 0, else 1 thinner; at 0 it LEAVES");
        for (int kind = 0; kind <= 2; kind++) {
            LodgingNames x = port("p" + kind + ",1,30;", "n5,0;");
            say(x, 0, 3);
            x.pass(1);
            say(x, 0, 3);
            due("from 3", behindADay(x), 2);
            due("from 2", behindADay(x), 1);
            due("from 1", behindADay(x), 0);
            due("it is gone", x.count(3), 0);
            due("it stays gone", behindADay(x), 0);
            due("it had NO BED never", x.count(5), 0);
        }
    }

    private static void twoThinnerWithAMender() {
        Due.sentence("2: (with a MENDER 2); at 0 or less it LEAVES");
        for (int w = 1; w <= 5; w++) {
            LodgingNames x = port("p3,1,30;", "n5,0;");
            say(x, 0, w);
            due("stouter as with all", behindADay(x), w);
            say(x, 0, w);
            due("two thinner than " + w, behindADay(x), Math.max(0, w - 2));
            due("lodges", x.count(3), w > 2 ? 1 : 0);
            due("four thinner than " + w, behindADay(x), Math.max(0, w - 4));
        }
        LodgingNames y = port("p3,1,30;", "n5,0;");
        say(y, 0, 1);
        due("called", behindADay(y), 1);
        due("still called", behindADay(y), 2);
    }

    private static void leavesInItsTurn() {
        Due.sentence("2: it LEAVES (in its turn: its BED is there for those behind it)");
        LodgingNames x = port("p0,1,30;", "n9,0;n1,0;");
        say(x, 0, 1);
        x.pass(1);
        say(x, 0, 1);
        say(x, 1, 1);
        due("1 comes on the same DAY", behindADay(x), 1);
        due("none was without", x.count(5), 0);
        LodgingNames y = port("p0,1,30;", "n1,0;n9,0;");
        say(y, 1, 1);
        y.pass(1);
        say(y, 1, 1);
        say(y, 0, 1);
        due("0 comes not on the same DAY", behindADay(y), 0);
        due("it has NO BED", y.count(5), 1);
        due("but on the next", behindADay(y), 10);
    }

    private static void comesOnlyIfCalled() {
        Due.sentence("2: If it does not, and W is above 0, it COMES");
        LodgingNames x = port("p0,5,30;", "n5,0;n20,0;");
        due("nobody CALLS him", behindADay(x), 0);
        say(x, 0, 1);
        due("by 0 alone", behindADay(x), 10);
        LodgingNames y = port("p0,0,30;", "n5,0;n20,0;");
        y.pass(20);
        due("none that COMES has NO BED", y.count(5), 0);
    }

    private static void comesSoStout() {
        Due.sentence("2: it COMES, W stout (in place of another, too)");
        for (int w = 1; w <= 5; w++) {
            LodgingNames x = port("p0,1,30;", "n5,0;n6,0;");
            say(x, 0, 1);
            x.pass(9);
            say(x, 1, w);
            due("in place of one 9 stout", behindADay(x), w);
        }
    }

    private static void fewerThanBeds() {
        Due.sentence("2: if fewer lodge there than there are BEDS");
        for (int kind : new int[] {0, 2, 3}) {
            for (int beds = 0; beds <= 5; beds++) {
                due("lodge", crowd(kind, beds).person(0, 3), (1 << beds) - 1);
                due("NO BED", crowd(kind, beds).count(5), 8 - beds);
            }
        }
    }

    private static void inPlaceOfOneLessUnkind() {
        Due.sentence("2: or in place of the least UNKIND one there, if that is less UNKIND than it");
        for (int unkind = 0; unkind <= 20; unkind++) {
            LodgingNames x = port("p0,1,30;", "n10,0;n" + unkind + ",0;");
            say(x, 0, 1);
            x.pass(4);
            say(x, 1, 2);
            due("10 there, comes " + unkind, behindADay(x), unkind > 10 ? 2 : 50);
            due("NO BED", x.count(5), unkind > 10 ? 0 : 1);
        }
        LodgingNames y = port("p0,3,30;", "n9,0;n4,0;n7,0;n8,0;");
        for (int n = 0; n < 3; n++) {
            say(y, n, 1);
        }
        y.pass(1);
        say(y, 3, 1);
        due("of 9, 4 and 7 the 4", behindADay(y), 2021);
    }

    private static void ofSeveralTheHighest() {
        Due.sentence("2: (of several the highest NAME)");
        String[] there = {"n3,0;n3,0;n3,0;", "n3,0;n3,0;n9,0;", "n9,0;n3,0;n3,0;", "n3,0;n9,0;n3,0;"};
        int[] behind = {2201, 2021, 2201, 2201};
        for (int k = 0; k < there.length; k++) {
            LodgingNames x = port("p0,3,30;", there[k] + "n4,0;");
            for (int n = 0; n < 3; n++) {
                say(x, n, 1);
            }
            x.pass(1);
            say(x, 3, 1);
            due("comes to " + there[k], behindADay(x), behind[k]);
        }
    }

    private static void leavesForAnother() {
        Due.sentence("2: which LEAVES (and may come in its turn)");
        LodgingNames x = port("p0,2,30;", "n9,0;n5,0;n3,0;");
        say(x, 1, 1);
        say(x, 2, 2);
        due("1 and 2", behindADay(x), 12);
        due("stouter", behindADay(x), 24);
        say(x, 0, 1);
        due("0 in place of 2, which finds 1 more UNKIND", behindADay(x), 130);
        due("NO BED on the same DAY", x.count(5), 1);
        x.undo();
        say(x, 1, 1);
        due("1 is thinner", behindADay(x), 110);
        due("1 LEAVES, 2 comes, two stout anew", behindADay(x), 202);
        LodgingNames y = port("p0,1,30;", "n3,0;n9,0;");
        say(y, 0, 1);
        say(y, 1, 1);
        due("0 comes and 1 in its place", behindADay(y), 1);
        due("its turn is over that DAY", y.count(5), 0);
        due("the next one", behindADay(y), 2);
        due("it has NO BED", y.count(5), 1);
    }

    private static void noBed() {
        Due.sentence("2: else it has NO BED");
        LodgingNames x = port("p0,1,30;", "n5,0;n5,0;n4,0;");
        for (int n = 0; n < 3; n++) {
            say(x, n, 2);
        }
        due("0 lodges", behindADay(x), 200);
        due("1 and 2 do not", x.count(5), 2);
        x.pass(1);
        due("each DAY anew", x.count(5), 4);
        x.pass(20);
        due("each DAY of twenty", x.count(5), 44);
        say(x, 1, 2);
        x.pass(1);
        due("called no more", x.count(5), 45);
    }

    private static void noBedWithoutBeds() {
        Due.sentence("2: (there is no least UNKIND one where nobody lodges)");
        for (int kind = 0; kind <= 3; kind++) {
            LodgingNames x = port("p" + kind + ",0,30;", "n20,0;n0,0;");
            say(x, 0, 5);
            say(x, 1, 1);
            due("nobody comes", behindADay(x), 0);
            due("both have NO BED", x.count(5), 2);
        }
    }

    // ---- 2: QUARRELS with a CURATE

    /** Who is there comes ahead, by one caller each; then the last one, by one. */
    private static LodgingNames lastOne(String host, String there, int many, int unkind, int q) {
        LodgingNames x = port(host, there + "n" + unkind + ",0;q" + q + ";");
        for (int n = 0; n < many; n++) {
            say(x, n, 1);
        }
        x.pass(1);
        due("those there", x.count(3), many);
        say(x, many, 1);
        x.pass(1);
        return x;
    }

    private static void curateByHowFarApart() {
        Due.sentence("1: QUARREL that are Q apart in how UNKIND they are, or more; 2: as it has with a CURATE");
        for (int unkind = 0; unkind <= 20; unkind++) {
            boolean comes = unkind > 6 && unkind < 14;
            LodgingNames x = lastOne("p2,5,30;", "n10,0;", 1, unkind, 4);
            due("4 apart of 10, comes " + unkind, Edges.stouts(x, 0), comes ? 21 : 20);
            due("NO BED, though there are BEDS", x.count(5), comes ? 0 : 1);
        }
        due("1 apart", Edges.stouts(lastOne("p2,5,30;", "n10,0;", 1, 11, 1), 0), 20);
        due("alike", Edges.stouts(lastOne("p2,5,30;", "n10,0;", 1, 10, 1), 0), 21);
        due("20 apart", Edges.stouts(lastOne("p2,5,30;", "n0,0;", 1, 20, 20), 0), 20);
        due("19 apart", Edges.stouts(lastOne("p2,5,30;", "n0,0;", 1, 19, 20), 0), 21);
    }

    private static void curateByAny() {
        Due.sentence("2: if it QUARRELS with any that lodges there");
        String there = "n5,0;n8,0;";
        due("9: with 5 alone", Edges.stouts(lastOne("p2,5,30;", there, 2, 9, 4), 0), 220);
        due("4: with 8 alone", Edges.stouts(lastOne("p2,5,30;", there, 2, 4, 4), 0), 220);
        due("6: with none", Edges.stouts(lastOne("p2,5,30;", there, 2, 6, 4), 0), 221);
        due("20: with both", Edges.stouts(lastOne("p2,5,30;", there, 2, 20, 4), 0), 220);
        LodgingNames x = port("p2,5,30;", "n20,0;n0,0;q1;");
        say(x, 1, 1);
        due("with none that lodges not", behindADay(x), 1);
        say(x, 0, 1);
        due("one that lodges is not in quarrel's way", behindADay(x), 2);
        due("the other is", x.count(5), 1);
        say(x, 1, 1);
        due("thinner", behindADay(x), 1);
        due("until it has left", behindADay(x), 0);
        due("then it comes", behindADay(x), 10);
    }

    private static void curateInPlaceOfAnother() {
        Due.sentence("2: (with a CURATE it QUARRELS with the one in whose place it would come)");
        due("9 for 5", Edges.stouts(lastOne("p2,1,30;", "n5,0;", 1, 9, 4), 0), 20);
        due("8 for 5", Edges.stouts(lastOne("p2,1,30;", "n5,0;", 1, 8, 4), 0), 1);
        due("5 for 5", Edges.stouts(lastOne("p2,1,30;", "n5,0;", 1, 5, 4), 0), 20);
        due("9 for 5 by 8", Edges.stouts(lastOne("p2,2,30;", "n5,0;n8,0;", 2, 9, 4), 0), 220);
        due("NO BED", lastOne("p2,1,30;", "n5,0;", 1, 9, 4).count(5), 1);
    }

    private static void quarrelsElsewhere() {
        Due.sentence("2: (without a CURATE a NAME that QUARRELS COMES)");
        for (int kind : new int[] {0, 1, 3}) {
            due("20 to 0", Edges.stouts(lastOne("p" + kind + ",5,30;", "n0,0;", 1, 20, 1), 0), 21);
            due("0 to 20", Edges.stouts(lastOne("p" + kind + ",5,30;", "n20,0;", 1, 0, 1), 0), 21);
        }
    }

    // ---- 2: HUNGRY

    /** Three that eat so, each called by one; how stout they are behind a day. */
    private static int fed(int kind, int food, int a, int b, int c) {
        LodgingNames x = port("p" + kind + ",4," + food + ";", "n1,0;n2," + a + ";n3," + b + ";n4," + c + ";");
        for (int n = 1; n <= 3; n++) {
            say(x, n, 2);
        }
        return behindADay(x);
    }

    private static void hungryByMoreThanThereIs() {
        Due.sentence("2: HUNGRY is a PERSON with whom those lodge that EAT more together than there is FOOD");
        for (int kind = 0; kind <= 3; kind++) {
            due("27 of 27", fed(kind, 27, 9, 9, 9), 222);
            due("27 of 26", fed(kind, 26, 9, 9, 9), 122);
            due("27 of 28", fed(kind, 28, 9, 9, 9), 222);
            due("0 of 0", fed(kind, 0, 0, 0, 0), 222);
            due("1 of 0", fed(kind, 0, 0, 0, 1), 122);
        }
        LodgingNames x = port("p0,5,30;", "n1,9;n1,9;n1,9;n1,3;n1,1;");
        for (int n = 0; n < 4; n++) {
            say(x, n, 1);
        }
        due("30 of 30", behindADay(x), 11110);
        say(x, 4, 1);
        due("31 of 30", behindADay(x), 12221);
    }

    private static void hungryBehindAllNames() {
        Due.sentence("2: if he is that behind all NAMES");
        LodgingNames x = port("p0,2,5;", "n1,4;n2,5;");
        say(x, 0, 1);
        due("0 is there", behindADay(x), 10);
        say(x, 0, 1);
        say(x, 1, 1);
        due("0 has left: 5 of 5", behindADay(x), 1);
        LodgingNames y = port("p0,2,5;", "n2,5;n1,4;");
        say(y, 1, 1);
        y.pass(1);
        say(y, 1, 1);
        say(y, 0, 2);
        due("1 leaves behind 0: 5 of 5", behindADay(y), 20);
        LodgingNames z = port("p0,1,4;", "n1,4;n2,5;");
        say(z, 0, 2);
        due("4 of 4", behindADay(z), 20);
        say(z, 1, 2);
        due("1 has come in its place: 5 of 4", behindADay(z), 1);
    }

    private static void stoutestIsThinner() {
        Due.sentence("2: the stoutest one is 1 thinner");
        LodgingNames x = port("p0,3,26;", "n1,9;n2,9;n3,9;");
        say(x, 0, 1);
        say(x, 1, 2);
        say(x, 2, 3);
        due("3 is the stoutest", behindADay(x), 122);
        due("6 by now, less one", Edges.stouts(x, 0) == 122 ? behindADay(x) : 0, 244);
        LodgingNames y = port("p0,2,0;", "n1,0;n2,0;n3,9;");
        say(y, 0, 3);
        say(y, 1, 2);
        due("not hungry", behindADay(y), 320);
        say(y, 0, 3);
        say(y, 1, 1);
        due("2 and 3 by the end of the DAY", behindADay(y), 230);
        LodgingNames z = port("p0,2,8;", "n1,4;n2,5;");
        say(z, 0, 3);
        due("3 stout", behindADay(z), 30);
        say(z, 0, 3);
        say(z, 1, 3);
        due("the stoutest behind all NAMES", behindADay(z), 22);
    }

    private static void ofSeveralTheLowest() {
        Due.sentence("2: (of several the lowest NAME)");
        due("all alike", fed(0, 26, 9, 9, 9), 122);
        LodgingNames x = port("p0,4,26;", "n1,0;n2,9;n3,9;n4,9;");
        say(x, 1, 1);
        say(x, 2, 2);
        say(x, 3, 2);
        due("the lowest of the stoutest", behindADay(x), 112);
    }

    private static void oneThinnerByHunger() {
        Due.sentence("2: one is 1 thinner, once a DAY (with a MENDER 1, too)");
        for (int kind = 0; kind <= 3; kind++) {
            due("though all are hungry still", fed(kind, 0, 9, 9, 9), 122);
        }
        LodgingNames x = port("p3,3,0;", "n1,9;n2,9;n3,9;");
        for (int n = 0; n < 3; n++) {
            say(x, n, 2);
        }
        due("day 1", behindADay(x), 122);
        due("day 2", behindADay(x), 334);
        due("day 3", behindADay(x), 555);
        due("day 4", behindADay(x), 677);
        x.undo();
        x.pass(2);
        due("two DAYS at one time as one by one", Edges.stouts(x, 0), 889);
        due("of 9, 9 and 9 the lowest", behindADay(x), 899);
    }

    private static void hungerDrivesOut() {
        Due.sentence("2: 1 thinner (at 0 it LEAVES) by hunger");
        LodgingNames x = port("p0,2,0;", "n1,9;n2,9;");
        say(x, 0, 1);
        due("comes and LEAVES", behindADay(x), 0);
        due("nobody lodges", x.count(3), 0);
        due("it had a BED", x.count(5), 0);
        due("the next DAY, too", behindADay(x), 0);
        say(x, 0, 1);
        say(x, 1, 2);
        due("two less one", behindADay(x), 1);
        say(x, 1, 2);
        due("thinner at 0, not below", behindADay(x), 0);
        due("nobody lodges", x.count(3), 0);
        say(x, 1, 1);
        due("comes anew", behindADay(x), 0);
    }

    // ---- 2: words, mending, UNDONE

    private static void wordsTakenUpAndDropped() {
        Due.sentence("2: A WORD can be taken up or dropped; Promise 11: 1 if it is one then, 0");
        LodgingNames x = port("p0,2,30;", "n1,0;n2,0;");
        due("taken up", x.say(5, 0, 1), 1);
        due("it is one", x.calls(5, 0, 1), 1);
        due("not the other way", x.calls(0, 5, 1), 0);
        due("not by the other NAME", x.calls(5, 0, 0), 0);
        due("not by another one", x.calls(4, 0, 1), 0);
        due("not of another one", x.calls(5, 4, 1), 0);
        due("nobody lodges by that", x.count(3), 0);
        due("dropped", x.say(5, 0, 1), 0);
        due("it is none", x.calls(5, 0, 1), 0);
        due("none", x.count(2), 0);
        due("no DAY went by", x.count(4), 0);
    }

    private static void mendingThins() {
        Due.sentence("2: a PERSON can MEND: each that lodges with him is 1 thinner");
        for (int kind = 0; kind <= 3; kind++) {
            LodgingNames x = port("p" + kind + ",5,30;", "n1,0;n2,0;n3,0;n4,0;");
            say(x, 0, 5);
            say(x, 1, 2);
            say(x, 2, 1);
            due("ahead", behindADay(x), 5210);
            due("one LEAVES", x.mend(0), 1);
            due("1 thinner, with a MENDER, too", Edges.stouts(x, 0), 4100);
            due("no DAY went by", x.count(4), 1);
            due("the words stay", x.count(2), 8);
            due("with another one none is thinner", x.mend(1) + Edges.stouts(x, 0), 4100);
        }
    }

    private static void mendingDrivesOut() {
        Due.sentence("2: (at 0 it LEAVES) by mending");
        LodgingNames x = port("p0,5,30;", "n1,0;n2,0;");
        say(x, 0, 1);
        say(x, 1, 1);
        x.pass(1);
        due("both", x.mend(0), 2);
        due("nobody lodges", x.count(3), 0);
        due("none is below 0", x.mend(0), 0);
        due("none is below 0", Edges.stouts(x, 0), 0);
        due("they come anew, one stout", behindADay(x), 11);
    }

    private static void undoneAsOne() {
        Due.sentence("2: UNDONE is the latest DAYS (all that go by at one time are one)");
        LodgingNames x = new LodgingNames();
        x.pass(20);
        x.pass(19);
        due("two can be", x.count(8), 2);
        due("nineteen at one time", x.undo(), 1);
        due("days", x.count(4), 20);
        due("twenty at one time", x.undo(), 0);
        due("days", x.count(4), 0);
    }

    private static void undoneOfEach() {
        Due.sentence("2: UNDONE is the latest DAYS, word, mending");
        LodgingNames x = port("p0,1,30;", "n1,0;n1,0;");
        say(x, 0, 2);
        x.say(1, 0, 1);
        x.mend(0);
        due("a mending where nobody lodges is one, too", x.undo(), 3);
        x.pass(2);
        x.mend(0);
        x.mend(1);
        x.say(1, 0, 1);
        due("seven", x.count(8), 7);
        due("the word", x.undo(), 6);
        due("is one again", x.calls(1, 0, 1), 1);
        due("mending that drove out none is one, too", x.undo(), 5);
        due("thinner still", x.stout(0, 0), 3);
        due("the mending", x.undo(), 4);
        due("as stout as before", x.stout(0, 0), 4);
        due("the words stay", x.count(2), 3);
        due("two without a BED", x.count(5), 2);
        due("the DAYS", x.undo(), 3);
        due("nobody lodges", x.count(3), 0);
        due("none was without a BED", x.count(5), 0);
        due("day 0", x.count(4), 0);
        due("the word", x.undo(), 2);
        due("is none", x.calls(1, 0, 1), 0);
        x.pass(1);
        due("by two", x.stout(0, 0), 2);
        due("three again", x.count(8), 3);
    }

    private static void undoneEight() {
        Due.sentence("2: (the last 8 can be)");
        for (int many = 1; many <= 12; many++) {
            LodgingNames x = new LodgingNames();
            for (int k = 0; k < many; k++) {
                x.pass(1);
            }
            int can = Math.min(8, many);
            due("of " + many, x.count(8), can);
            for (int k = can - 1; k >= 0; k--) {
                due("undo", x.undo(), k);
            }
            due("a 9th", x.undo(), NO);
            due("days that stay", x.count(4), many - can);
        }
        LodgingNames y = new LodgingNames();
        for (int k = 0; k < 30; k++) {
            y.pass(1);
            y.pass(2);
            y.undo();
        }
        // The 9th lets the oldest one go for good, though it is undone at once.
        due("seven", y.count(8), 7);
        for (int k = 0; k < 7; k++) {
            y.undo();
        }
        due("an 8th", y.undo(), NO);
        due("the others stay", y.count(4), 23);
    }

    // ---- promises 10 to 13

    private static void daysToPass() {
        Due.sentence("Promise 10: pass: n DAYS (1 to 20) go by. BAD");
        for (int n = 1; n <= 20; n++) {
            LodgingNames x = new LodgingNames();
            due("pass(" + n + ")", x.pass(n), n);
            due("as many DAYS", x.stout(0, 3), Math.min(9, n));
        }
        LodgingNames y = new LodgingNames();
        y.pass(4);
        Edges.refused("pass(0)", y, x -> x.pass(0), BAD);
        Edges.refused("pass(21)", y, x -> x.pass(21), BAD);
        due("pass(-1)", y.pass(-1), BAD);
        due("pass(-20)", y.pass(-20), BAD);
        for (int far : Edges.FAR_OFF) {
            due("pass(" + far + ")", y.pass(far), BAD);
        }
        due("four DAYS all the same", y.count(4), 4);
    }

    private static void daysInAll() {
        Due.sentence("Promise 10: pass: how many have gone by in all; 512 calls");
        LodgingNames x = new LodgingNames();
        for (int k = 1; k <= 511; k++) {
            due("in all", x.pass(20), 20 * k);
        }
        due("the 512th call", x.count(4), 10220);
    }

    private static void sayBad() {
        Due.sentence("Promise 11: say: BAD (alike, too)");
        String text = "p0,1,1;p0,1,1;n1,1;n1,1;c0,1,0;";
        int[][] off = {{0, 0, 0}, {1, 1, 1}, {2, 0, 0}, {0, 2, 0}, {-1, 0, 0}, {0, -1, 0}, {0, 1, 2}, {0, 1, -1}, {2, 2, 0}};
        for (int[] o : off) {
            Edges.refused("say(" + o[0] + ", " + o[1] + ", " + o[2] + ")", Edges.laid(text), x -> x.say(o[0], o[1], o[2]), BAD);
        }
        for (int far : Edges.FAR_OFF) {
            LodgingNames x = Edges.laid(text);
            due("far off", Math.max(x.say(far, 1, 0), Math.max(x.say(0, far, 0), x.say(0, 1, far))), BAD);
            due("one WORD all the same", x.count(2), 1);
        }
    }

    /** Two PERSONS, eight NAMES, twelve WORDS: 0 CALLS 1 by all but 6 and 7, 1 CALLS 0 so, too. */
    private static LodgingNames twelve() {
        LodgingNames x = Edges.laid("p0,5,30;p0,5,30;" + Edges.times("n5,1;", 8));
        for (int n = 0; n < 6; n++) {
            x.say(0, 1, n);
            x.say(1, 0, n);
        }
        return x;
    }

    private static void sayFull() {
        Due.sentence("Promise 11: say: FULL: there are 12 (and it is none)");
        due("the 12th", twelve().count(2), 12);
        Edges.refused("a 13th", twelve(), x -> x.say(0, 1, 6), FULL);
        Edges.refused("a 13th", twelve(), x -> x.say(1, 0, 7), FULL);
        LodgingNames y = twelve();
        due("one of the twelve", y.say(1, 0, 5), 0);
        due("eleven", y.count(2), 11);
        due("a 12th", y.say(1, 0, 7), 1);
        due("twelve", y.count(2), 12);
        due("the one that was dropped", y.say(1, 0, 5), FULL);
        y.undo();
        due("undone there is room", y.say(1, 0, 5), 1);
    }

    private static void sayBeforeFull() {
        Due.sentence("Promise 11: say: BAD ahead of FULL");
        due("alike", twelve().say(0, 0, 6), BAD);
        due("no such PERSON", twelve().say(2, 0, 6), BAD);
        due("no such PERSON", twelve().say(0, 2, 6), BAD);
        due("no such NAME", twelve().say(0, 1, 8), BAD);
        due("no such NAME", twelve().say(0, 1, -1), BAD);
    }

    private static void mendHowMany() {
        Due.sentence("Promise 12: mend: A PERSON MENDS: how many LEAVE");
        for (int many = 0; many <= 5; many++) {
            LodgingNames x = port("p0,5,30;", Edges.times("n5,0;", 6));
            say(x, 5, 3);
            for (int n = 0; n < many; n++) {
                say(x, n, 1);
            }
            x.pass(1);
            due("those 1 stout", x.mend(0), many);
        }
        LodgingNames y = port("p0,5,30;", "n5,0;");
        due("none lodges", y.mend(0), 0);
        due("it can be UNDONE", y.count(8), 1);
        due("the last PERSON", y.mend(5), 0);
    }

    private static void mendBad() {
        Due.sentence("Promise 12: mend: BAD");
        String text = "p0,2,30;p0,2,30;n1,0;n2,0;c1,0,0;c0,1,1;";
        for (int p : new int[] {-1, 2, 6, Integer.MIN_VALUE, Integer.MAX_VALUE}) {
            LodgingNames x = Edges.laid(text);
            x.pass(2);
            Edges.refused("mend(" + p + ")", x, y -> y.mend(p), BAD);
        }
    }

    private static void undoHowMany() {
        Due.sentence("Promise 13: undo: UNDONE: how many more can be");
        LodgingNames x = Edges.laid("p0,2,30;p0,2,30;n1,0;n2,0;c1,0,0;");
        x.pass(1);
        String at1 = Edges.picture(x);
        x.say(0, 1, 1);
        due("one more", x.undo(), 1);
        due("as ahead of it", Edges.picture(x).equals(at1) ? 1 : 0, 1);
        x.mend(0);
        due("one more", x.undo(), 1);
        due("as ahead of it", Edges.picture(x).equals(at1) ? 1 : 0, 1);
        x.pass(20);
        due("one more", x.undo(), 1);
        due("as ahead of it", Edges.picture(x).equals(at1) ? 1 : 0, 1);
        due("none more", x.undo(), 0);
    }

    private static void undoNone() {
        Due.sentence("Promise 13: undo: NO");
        Edges.refused("undo() of a new object", new LodgingNames(), x -> x.undo(), NO);
        LodgingNames y = Edges.laid("p0,2,30;p0,2,30;n1,0;n2,0;c1,0,0;");
        Edges.refused("undo() behind lay()", y, x -> x.undo(), NO);
        y.pass(21);
        y.say(0, 0, 0);
        y.mend(2);
        y.write('q');
        y.see(0, 0, 1, 0);
        y.forget();
        y.keep();
        y.year(0, 60, 0);
        Edges.refused("undo() of what was refused, and of all else", y, x -> x.undo(), NO);
        y.pass(1);
        y.undo();
        Edges.refused("undo() of one undone", y, x -> x.undo(), NO);
    }
}
