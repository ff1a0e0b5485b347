/** The promises one by one, by answers worked out by hand from the document. */
public final class PromiseTest {
    private static final int BAD = -1, NO = -2, FULL = -3, NONE = -4;

    private PromiseTest() {
    }

    public static void main(String[] args) {
        newObject();
        writeAndWipe();
        faultOfItems();
        faultOfLimits();
        lay();
        personAndName();
        stoutAndCalls();
        pass();
        comingAndBeds();
        curate();
        child();
        mender();
        hunger();
        say();
        mend();
        undo();
        undoOfEight();
        behind();
        homeless();
        load();
        out();
        outOfTwo();
        rooms();
        game();
        seeAndForget();
        said();
        whose();
        chance();
        year();
        keepAndBack();
        count();
        wrongNumbers();
        Due.end("PromiseTest");
    }

    private static void due(String what, long got, long want) {
        Due.due(what, got, want);
    }

    private static LodgingNames written(String text) {
        LodgingNames x = new LodgingNames();
        for (int k = 0; k < text.length(); k++) {
            due("write of " + text, x.write(text.charAt(k)), k + 1);
        }
        return x;
    }

    private static LodgingNames laid(String text, int persons) {
        LodgingNames x = written(text);
        due("lay of " + text, x.lay(), persons);
        return x;
    }

    private static void dueFault(String text, int want) {
        LodgingNames x = written(text);
        due("fault of " + text, x.fault(), want);
        if (want != NONE) {
            due("lay of " + text, x.lay(), NO);
            due("count(0) as ever", x.count(0), 5);
        }
    }

    private static String repeated(String item, int times) {
        StringBuilder all = new StringBuilder();
        for (int k = 0; k < times; k++) {
            all.append(item);
        }
        return all.toString();
    }

    // ---- 1 to 9: ports

    private static void newObject() {
        due("BAD", LodgingNames.BAD, -1);
        due("NO", LodgingNames.NO, -2);
        due("FULL", LodgingNames.FULL, -3);
        due("NONE", LodgingNames.NONE, -4);
        LodgingNames x = new LodgingNames();
        int[] counts = {5, 5, 8, 0, 0, 0, 6, 0, 0, 0, 0};
        for (int what = 0; what < counts.length; what++) {
            due("new, count(" + what + ")", x.count(what), counts[what]);
        }
        int[][] persons = {{0, 2, 6}, {1, 4, 12}, {2, 2, 9}, {3, 1, 5}, {4, 3, 8}};
        int[][] names = {{3, 2}, {9, 4}, {1, 1}, {14, 3}, {6, 5}};
        for (int p = 0; p < 5; p++) {
            for (int what = 0; what < 3; what++) {
                due("new, person(" + p + ", " + what + ")", x.person(p, what), persons[p][what]);
            }
            due("new, name(" + p + ", 0)", x.name(p, 0), names[p][0]);
            due("new, name(" + p + ", 1)", x.name(p, 1), names[p][1]);
        }
        int[][] words = {{0, 1, 0}, {1, 0, 3}, {2, 1, 1}, {0, 2, 2}, {3, 2, 4}, {4, 1, 0}, {1, 3, 1}, {0, 4, 1}};
        for (int[] w : words) {
            due("new, calls", x.calls(w[0], w[1], w[2]), 1);
        }
        due("new, fault()", x.fault(), NONE);
        due("new, lay()", x.lay(), NO);
        due("new, undo()", x.undo(), NO);
        due("new, back()", x.back(), NO);
    }

    private static void writeAndWipe() {
        LodgingNames x = new LodgingNames();
        due("write(31)", x.write(31), BAD);
        due("write(127)", x.write(127), BAD);
        due("write(-1)", x.write(-1), BAD);
        due("write(32)", x.write(32), 1);
        due("write(126)", x.write(126), 2);
        due("wipe()", x.wipe(), 2);
        due("wipe() again", x.wipe(), 0);
        for (int k = 1; k <= 200; k++) {
            due("write the " + k + ".", x.write('q'), k);
        }
        due("write beyond 200", x.write('q'), FULL);
        due("a wrong letter beyond 200", x.write(31), BAD);
        due("count(10)", x.count(10), 200);
        due("wipe() of 200", x.wipe(), 200);
        due("write behind wipe", x.write('q'), 1);
    }

    private static void faultOfItems() {
        dueFault("", NONE);
        dueFault("q6;", NONE);
        dueFault("q06;q20;q1;", NONE);
        dueFault("p04,05,30;n20,9;n00,00;", NONE);
        dueFault("x", 0);
        dueFault(" q6;", 0);
        dueFault("q6; q7;", 3);
        dueFault("q6;q7", 3);
        dueFault("q6;q", 3);
        dueFault("q6;q;", 3);
        dueFault("q6,7;", 0);
        dueFault("q006;", 0);
        dueFault("q6;;", 3);
        dueFault("q6;p0,2;", 3);
        dueFault("q6;p0,2,3,4;", 3);
        dueFault("n3,2;n3,2,1;", 5);
        dueFault("n3,2;n3;", 5);
        dueFault("n3,,2;", 0);
        dueFault("n3;2;", 0);
        dueFault("n-3,2;", 0);
        dueFault("P0,2,3;", 0);
        dueFault("q6;q6,", 3);
    }

    private static void faultOfLimits() {
        dueFault("q0;", 0);
        dueFault("q21;", 0);
        dueFault("p5,0,0;", 0);
        dueFault("p0,6,0;", 0);
        dueFault("p0,0,31;", 0);
        dueFault("n21,0;", 0);
        dueFault("n0,10;", 0);
        dueFault(repeated("p0,0,0;", 6), NONE);
        dueFault(repeated("p0,0,0;", 7), 42);
        dueFault(repeated("n0,0;", 8), NONE);
        dueFault(repeated("n0,0;", 9), 40);
        String two = "p0,0,0;p0,0,0;n0,0;";
        dueFault(two + "c0,1,0;", NONE);
        dueFault(two + "c0,0,0;", 19);
        dueFault(two + "c2,0,0;", 19);
        dueFault(two + "c0,2,0;", 19);
        dueFault(two + "c0,1,1;", 19);
        dueFault("p0,0,0;n0,0;c0,1,0;p0,0,0;", 12);
        dueFault("p0,0,0;p0,0,0;c0,1,0;n0,0;", 14);
        String four = repeated("p0,0,0;", 2) + repeated("n0,0;", 7);
        StringBuilder words = new StringBuilder(four);
        for (int n = 0; n < 6; n++) {
            words.append("c0,1,").append(n).append(";c1,0,").append(n).append(';');
        }
        dueFault(words.toString(), NONE);
        dueFault(words + "c0,1,6;", 49 + 84);
        dueFault(words + "c0,1,5;c0,1,6;", NONE);
        LodgingNames x = laid(words + "c0,1,5;c0,1,6;", 2);
        due("told once more it is none", x.calls(0, 1, 5), 0);
        due("count(2)", x.count(2), 12);
    }

    private static void lay() {
        dueLayNo("p0,2,6;");
        dueLayNo("n3,2;");
        LodgingNames x = laid("p0,2,6;p0,1,5;n3,1;c0,1,0;q3;q4;", 2);
        due("the last q counts", x.count(6), 4);
        due("THE TEXT stays", x.count(10), 32);
        x.pass(3);
        x.see(0, 0, 1, 1);
        x.keep();
        x.say(1, 0, 0);
        due("lay() again", x.lay(), 2);
        int[] counts = {2, 1, 1, 0, 0, 0, 4, 0, 0, 0, 32};
        for (int what = 0; what < counts.length; what++) {
            due("laid, count(" + what + ")", x.count(what), counts[what]);
        }
        due("laid without q", laid("p0,0,0;n0,0;", 1).count(6), 8);
    }

    private static void dueLayNo(String text) {
        LodgingNames x = written(text);
        x.keep();
        x.pass(2);
        due("lay of " + text, x.lay(), NO);
        due("nothing changes: days", x.count(4), 2);
        due("nothing changes: kept", x.count(9), 1);
        due("nothing changes: undone", x.count(8), 1);
        due("nothing changes: persons", x.count(0), 5);
    }

    private static void personAndName() {
        LodgingNames x = laid("p0,5,6;p1,5,1;n20,9;n4,0;c0,1,0;c0,1,1;", 2);
        due("a harbourmaster's beds", x.person(1, 1), 10);
        due("beds", x.person(0, 1), 5);
        due("food", x.person(0, 2), 6);
        due("none lodges", x.person(1, 3), 0);
        x.pass(1);
        due("name(0, 0)", x.name(0, 0), 20);
        due("name(0, 1)", x.name(0, 1), 9);
        // He was hungry that day: 0 was 1 stout and left, being the stoutest one of lowest number.
        due("who lodges", x.person(1, 3), 2);
        due("hungry no more", x.person(1, 4), 0);
        LodgingNames y = laid("p0,2,1;p0,1,5;p0,0,0;n3,2;n5,1;c1,0,0;c2,0,0;c1,0,1;", 3);
        y.pass(1);
        due("both lodge", y.person(0, 3), 3);
        due("hungry now", y.person(0, 4), 1);
        due("not hungry", y.person(1, 4), 0);
        LodgingNames z = laid("p0,2,0;p0,2,3;n3,3;c0,1,0;", 2);
        z.pass(1);
        due("it lodges", z.person(1, 3), 1);
        due("as much as there is", z.person(1, 4), 0);
        due("person(1, 5)", z.person(1, 5), BAD);
        due("person(1, -1)", z.person(1, -1), BAD);
        due("name(0, 2)", z.name(0, 2), BAD);
        due("name(0, -1)", z.name(0, -1), BAD);
    }

    private static void stoutAndCalls() {
        LodgingNames x = laid("p0,2,30;p0,2,30;n3,0;n4,0;c1,0,1;", 2);
        due("calls(1, 0, 1)", x.calls(1, 0, 1), 1);
        due("calls(0, 1, 1)", x.calls(0, 1, 1), 0);
        due("calls(1, 0, 0)", x.calls(1, 0, 0), 0);
        x.pass(1);
        due("stout(0, 1)", x.stout(0, 1), 1);
        due("stout(1, 1)", x.stout(1, 1), 0);
        due("stout(0, 0)", x.stout(0, 0), 0);
    }

    // ---- 10 to 13: days

    private static void pass() {
        LodgingNames x = laid("p0,2,30;p0,2,30;p0,2,30;n3,0;c1,0,0;c2,0,0;", 3);
        due("pass(0)", x.pass(0), BAD);
        due("pass(21)", x.pass(21), BAD);
        due("pass(1)", x.pass(1), 1);
        due("comes, two stout", x.stout(0, 0), 2);
        due("pass(2)", x.pass(2), 3);
        due("two stouter a day", x.stout(0, 0), 6);
        due("pass(20)", x.pass(20), 23);
        due("nine at most", x.stout(0, 0), 9);
        x.say(1, 0, 0);
        x.say(2, 0, 0);
        due("pass(8)", x.pass(8), 31);
        due("one thinner a day", x.stout(0, 0), 1);
        due("pass(1)", x.pass(1), 32);
        due("leaves", x.stout(0, 0), 0);
        due("none lodges", x.count(3), 0);
        due("a thousand days", manyDays(), 1000);
    }

    private static int manyDays() {
        LodgingNames x = new LodgingNames();
        for (int k = 0; k < 50; k++) {
            x.pass(20);
        }
        return x.count(4);
    }

    private static void comingAndBeds() {
        // One bed: 0 comes, 1 (more unkind) comes in place of it, 2 is no more unkind than 1.
        LodgingNames x = laid("p0,1,30;p0,0,30;n3,0;n5,0;n5,0;c1,0,0;c1,0,1;c1,0,2;", 2);
        x.pass(1);
        due("driven out", x.stout(0, 0), 0);
        due("in its place", x.stout(0, 1), 1);
        due("as unkind has no bed", x.stout(0, 2), 0);
        due("no bed", x.count(5), 1);
        x.pass(1);
        due("no bed for 0 and 2", x.count(5), 3);
        // Of several least unkind the highest leaves: it comes back for none, being less unkind.
        LodgingNames y = laid("p0,2,30;p0,0,30;n1,0;n1,0;n9,0;c1,0,0;c1,0,1;c1,0,2;", 2);
        y.pass(1);
        due("the lower stays", y.person(0, 3), 5);
        due("none was without", y.count(5), 0);
        y.pass(1);
        due("now one is", y.count(5), 1);
        // Without beds nobody comes.
        LodgingNames z = laid("p0,0,30;p0,0,30;n1,0;c1,0,0;", 2);
        z.pass(2);
        due("no beds at all", z.count(5), 2);
        due("nobody there", z.count(3), 0);
        // One that is driven out behind its turn may come in its turn later on the same day.
        LodgingNames w = laid("p0,1,30;p0,0,30;n5,0;n3,0;c1,0,1;", 2);
        w.pass(3);
        w.say(1, 0, 0);
        w.pass(1);
        due("0 took the bed", w.stout(0, 0), 1);
        due("1 was driven out", w.stout(0, 1), 0);
        due("and had no bed", w.count(5), 1);
    }

    private static void curate() {
        String rest = ",2,30;p0,0,30;n1,0;n9,0;n4,0;c1,0,0;c1,0,1;c1,0,2;q8;";
        LodgingNames x = laid("p2" + rest, 2);
        x.pass(1);
        due("8 apart quarrel with a curate", x.person(0, 3), 5);
        due("no bed with a curate", x.count(5), 1);
        LodgingNames y = laid("p0" + rest, 2);
        y.pass(1);
        // 0 and 1 come; 2 comes in place of 0, the least unkind.
        due("they come with another", y.person(0, 3), 6);
        LodgingNames z = laid("p2,1,30;p0,0,30;n1,0;n9,0;c1,0,0;c1,0,1;q8;", 2);
        z.pass(1);
        due("nor in place of the one it quarrels with", z.person(0, 3), 1);
        LodgingNames w = laid("p2,1,30;p0,0,30;n1,0;n9,0;c1,0,0;c1,0,1;q9;", 2);
        w.pass(1);
        due("but if they don't quarrel", w.person(0, 3), 2);
    }

    private static void child() {
        LodgingNames x = laid("p4,0,0;p4,5,30;n1,0;c1,0,0;c0,1,0;", 2);
        x.pass(5);
        due("nobody lodges", x.count(3), 0);
        due("nobody is without", x.count(5), 0);
        due("homeless(0)", x.homeless(0), NONE);
        due("homeless(1)", x.homeless(1), NONE);
        due("chance", x.chance(0, 0, 10, 0), 0);
        due("out", x.out(1, 0, 1, 0), 0);
        due("out, the first", x.out(1, 0, 1, 1), NONE);
        due("a child's beds are told", x.person(1, 1), 5);
    }

    private static void mender() {
        LodgingNames x = laid("p3,2,30;p0,0,30;n1,0;c1,0,0;", 2);
        x.pass(5);
        due("five stout", x.stout(0, 0), 5);
        x.say(1, 0, 0);
        x.pass(1);
        due("two thinner", x.stout(0, 0), 3);
        x.pass(1);
        due("two thinner", x.stout(0, 0), 1);
        x.pass(1);
        due("leaves below 0, too", x.stout(0, 0), 0);
    }

    private static void hunger() {
        LodgingNames x = laid("p0,2,1;p0,0,0;p0,0,0;n3,1;n5,1;c1,0,0;c2,0,0;c1,0,1;", 3);
        x.pass(1);
        due("the stoutest is thinner", x.stout(0, 0), 1);
        due("the other is not", x.stout(0, 1), 1);
        x.say(2, 0, 0);
        x.pass(1);
        due("of several the lowest", x.stout(0, 0), 1);
        due("not the higher", x.stout(0, 1), 2);
        x.pass(1);
        // 0 is 2 then, 1 is 3 and is the stoutest.
        due("not the thinner", x.stout(0, 0), 2);
        due("the stoutest", x.stout(0, 1), 2);
        LodgingNames y = laid("p0,1,0;p0,0,0;n3,1;c1,0,0;", 2);
        y.pass(1);
        due("at 0 it leaves", y.count(3), 0);
        due("it had a bed", y.count(5), 0);
        due("as much as it eats is enough", fed(), 1);
    }

    private static int fed() {
        LodgingNames x = laid("p0,1,3;p0,0,0;n3,3;c1,0,0;", 2);
        x.pass(1);
        return x.stout(0, 0);
    }

    private static void say() {
        LodgingNames x = new LodgingNames();
        due("dropped", x.say(0, 1, 0), 0);
        due("calls", x.calls(0, 1, 0), 0);
        due("taken up", x.say(0, 1, 0), 1);
        due("calls", x.calls(0, 1, 0), 1);
        for (int n = 0; n < 4; n++) {
            due("taken up " + n, x.say(3, 0, n), 1);
        }
        due("count(2)", x.count(2), 12);
        due("a 13th", x.say(3, 0, 4), FULL);
        due("alike before full", x.say(3, 3, 4), BAD);
        due("nothing changed", x.calls(3, 0, 4), 0);
        due("undone as before", x.count(8), 6);
        due("one of the twelve", x.say(3, 0, 0), 0);
        due("room again", x.say(3, 0, 4), 1);
    }

    private static void mend() {
        LodgingNames x = laid("p0,3,30;p0,0,30;p0,0,0;n1,0;n2,0;n3,0;c1,0,0;c2,0,0;c1,0,1;c1,0,2;", 3);
        x.pass(1);
        due("two leave", x.mend(0), 2);
        due("one thinner", x.stout(0, 0), 1);
        due("left", x.stout(0, 1), 0);
        due("the last one", x.mend(0), 1);
        due("none there", x.mend(0), 0);
        due("each can be undone", x.count(8), 4);
        due("days stay", x.count(4), 1);
    }

    private static void undo() {
        LodgingNames x = new LodgingNames();
        x.pass(3);
        x.say(0, 1, 0);
        x.mend(1);
        due("stout once mended", x.stout(1, 0), 5);
        due("undo the mending", x.undo(), 2);
        due("stout as before", x.stout(1, 0), 6);
        due("undo the word", x.undo(), 1);
        due("a word again", x.calls(0, 1, 0), 1);
        due("undo the days", x.undo(), 0);
        due("day 0", x.count(4), 0);
        due("nobody lodges", x.count(3), 0);
        due("undo() of none", x.undo(), NO);
        LodgingNames y = laid("p0,0,0;p0,0,0;n0,0;c1,0,0;", 2);
        y.pass(4);
        y.see(0, 0, 1, 0);
        due("without beds", y.count(5), 4);
        y.undo();
        due("no bed so far", y.count(5), 0);
        due("seen stays", y.count(7), 1);
        y.pass(21);
        y.say(0, 0, 0);
        y.mend(2);
        due("what was refused is not undone", y.undo(), NO);
    }

    private static void undoOfEight() {
        LodgingNames x = new LodgingNames();
        for (int k = 1; k <= 11; k++) {
            x.pass(1);
            due("can be undone", x.count(8), Math.min(k, 8));
        }
        for (int k = 7; k >= 0; k--) {
            due("undo", x.undo(), k);
            due("days", x.count(4), k + 3);
        }
        due("a ninth", x.undo(), NO);
        due("days left", x.count(4), 3);
    }

    // ---- 14 to 19: what comes

    private static void behind() {
        LodgingNames x = laid("p0,1,30;p0,0,30;n3,0;n5,0;c1,0,0;", 2);
        due("behind(0)", x.behind(0, 0, 0), 0);
        due("behind(1)", x.behind(1, 0, 0), 1);
        due("behind(40)", x.behind(40, 0, 0), 9);
        due("behind(41)", x.behind(41, 0, 0), BAD);
        due("behind(-1)", x.behind(-1, 0, 0), BAD);
        x.pass(4);
        due("from now on", x.behind(2, 0, 0), 6);
        due("now", x.behind(0, 0, 0), 4);
        due("days are not passed", x.count(4), 4);
        x.say(1, 0, 1);
        due("driven out then", x.behind(1, 0, 0), 0);
        due("not so far", x.stout(0, 0), 4);
    }

    private static void homeless() {
        LodgingNames x = laid("p0,1,30;p0,0,30;n3,0;n2,0;c1,0,0;c1,0,1;c0,1,1;", 2);
        due("of one day the lower person", x.homeless(0), 1);
        due("the next day", x.homeless(1), 1);
        due("homeless(2)", x.homeless(2), BAD);
        due("homeless(-1)", x.homeless(-1), BAD);
        x.say(1, 0, 1);
        due("the other one", x.homeless(0), 11);
        x.pass(3);
        due("days go by for none of it", x.count(4), 3);
        LodgingNames y = laid("p0,1,30;p0,0,30;n3,0;n5,0;c1,0,0;c1,0,1;", 2);
        // On day 1 0 comes and 1 takes its place; on day 2 0 has no bed.
        due("which", y.homeless(0), 0);
        due("on day 2", y.homeless(1), 2);
        y.say(0, 1, 1);
        due("a higher person on an earlier day", y.homeless(0), 11);
        due("on day 1", y.homeless(1), 1);
        LodgingNames z = laid("p0,0,30;p0,0,30;n3,0;n5,0;n7,0;c1,0,1;c1,0,2;", 2);
        due("the lowest name of one person", z.homeless(0), 1);
        LodgingNames w = laid("p0,1,30;p0,0,30;n3,0;c1,0,0;", 2);
        due("none", w.homeless(0), NONE);
        due("none, on which day", w.homeless(1), NONE);
        due("bad before none", w.homeless(2), BAD);
    }

    private static void load() {
        LodgingNames x = laid("p0,2,30;p0,2,30;n3,7;n5,2;n20,9;c1,0,0;c1,0,1;c0,1,2;", 2);
        due("none yet", x.load(0, 0), 0);
        x.pass(1);
        due("unkind", x.load(0, 0), 8);
        due("eaten", x.load(0, 1), 9);
        due("the other's", x.load(1, 0), 20);
        due("load(0, 2)", x.load(0, 2), BAD);
        due("load(2, 0)", x.load(2, 0), BAD);
    }

    private static void out() {
        LodgingNames x = laid("p0,1,30;p0,0,30;p0,0,0;n3,0;n5,0;c1,0,0;", 3);
        due("it does not lodge", x.out(0, 1, 5, 0), 0);
        due("no first", x.out(0, 1, 5, 1), NONE);
        due("no second", x.out(0, 1, 5, 2), NONE);
        due("one word", x.out(0, 0, 5, 0), 1);
        due("dropped, the first by I, then N", x.out(0, 0, 5, 1), 10);
        due("no second", x.out(0, 0, 5, 2), NONE);
        x.pass(9);
        // Nine stout, it would not leave soon: 1 said of him drives it out; by 1 before by 2.
        due("one more unkind", x.out(0, 0, 1, 0), 1);
        due("taken up", x.out(0, 0, 1, 1), 11);
        due("none can drive it out in time", alone(), NONE);
        // The first one's first name; a plain one who is called it by nobody else.
        LodgingNames y = laid("p0,0,0;p0,1,30;n3,0;n2,0;c0,1,0;", 2);
        due("by 0, name 0", y.out(1, 0, 20, 1), 0);
        due("twenty days", y.out(1, 0, 20, 0), 1);
        due("none beyond the first", y.out(1, 0, 20, 2), NONE);
    }

    private static int alone() {
        LodgingNames x = laid("p0,1,30;p0,0,30;p0,0,0;n3,0;n2,0;c1,0,0;", 3);
        x.pass(9);
        due("none, the second", x.out(0, 0, 8, 2), NONE);
        due("bad before none", x.out(0, 0, 8, 3), BAD);
        due("in nine days it can", x.out(0, 0, 9, 0), 1);
        return x.out(0, 0, 8, 0);
    }

    private static void outOfTwo() {
        LodgingNames x = laid("p0,1,30;p0,0,30;p0,0,0;n3,0;n2,0;c1,0,0;c2,0,0;", 3);
        due("two words", x.out(0, 0, 1, 0), 2);
        due("the first", x.out(0, 0, 1, 1), 10);
        due("the second", x.out(0, 0, 1, 2), 20);
        LodgingNames z = laid("p0,0,0;p0,2,30;p0,0,0;n3,0;n4,0;n4,0;", 3);
        z.say(0, 1, 0);
        z.pass(1);
        z.say(2, 1, 0);
        // It is 1 stout, two beds: by 1 and 2 it is driven out: 1 and 2 by the first one.
        due("two that are taken up", z.out(1, 0, 1, 0), 2);
        due("0 dropped twice is first", z.out(1, 0, 1, 1), 0);
        due("by 2, too", z.out(1, 0, 1, 2), 20);
        z.say(2, 1, 0);
        z.pass(1);
        due("2 stout, by 1 and 2", z.out(1, 0, 1, 1), 1);
        due("of one who calls", z.out(1, 0, 1, 2), 2);
        // Twelve words are there already: it may come to more.
        LodgingNames y = laid("p0,1,30;p0,0,0;p0,0,0;n3,0;n2,0;n9,0;n1,0;n1,0;n1,0;n1,0;n1,0;"
                + "c1,0,0;c2,0,0;c0,1,0;c0,1,1;c0,1,2;c0,1,3;c0,1,4;c0,1,5;c0,1,6;c0,1,7;c0,2,0;c0,2,1;", 3);
        due("twelve words", y.count(2), 12);
        due("by a thirteenth", y.out(0, 0, 1, 0), 1);
        due("which is", y.out(0, 0, 1, 1), 12);
        due("none was taken up", y.count(2), 12);
    }

    private static void rooms() {
        LodgingNames x = laid("p1,5,30;p0,0,0;n0,0;n3,0;n6,0;n9,0;n3,0;c1,0,0;c1,0,1;c1,0,2;c1,0,3;c1,0,4;q4;", 2);
        due("nobody", x.rooms(0), 0);
        x.pass(1);
        due("0 3 3, 6 9", x.rooms(0), 2);
        due("rooms(1)", x.rooms(1), 0);
        due("rooms(2)", x.rooms(2), BAD);
        due("rooms(-1)", x.rooms(-1), BAD);
        LodgingNames y = laid("p1,5,30;p0,0,0;n0,0;n3,0;n6,0;n9,0;n3,0;c1,0,0;c1,0,1;c1,0,2;c1,0,3;c1,0,4;q3;", 2);
        y.pass(1);
        due("0, 3 3, 6, 9", y.rooms(0), 4);
        LodgingNames z = laid("p1,5,30;p0,0,0;n20,0;n0,0;n20,0;c1,0,0;c1,0,1;c1,0,2;q20;", 2);
        z.pass(1);
        due("20 20, 0", z.rooms(0), 2);
    }

    private static void game() {
        LodgingNames x = laid("p0,1,30;p0,1,30;p0,0,0;n3,0;n5,0;n5,0;", 3);
        // The most that each can bring on the other is 5: by 1 or by 2.
        due("pairs that rest", x.game(0, 1, 1, 0), 4);
        due("the first", x.game(0, 1, 1, 1), 11);
        // To one without beds all are alike: 0, 1, 2 and none.
        due("with one without beds", x.game(0, 2, 3, 0), 2 * 4);
        due("the first one's name first", x.game(0, 2, 3, 1), 1);
        due("the other way", x.game(2, 0, 3, 1), 10);
        due("nothing is said by it", x.count(2), 0);
        due("nobody lodges by it", x.count(3), 0);
        // What he calls him already is as none, and so is 0, which has no bed beside it.
        x.say(0, 1, 2);
        x.pass(1);
        due("0, 1, 2 and none by two", x.game(0, 1, 1, 0), 4 * 2);
        due("the first of them", x.game(0, 1, 1, 1), 1);
        due("eleven days", x.game(0, 1, 11, 0), BAD);
        due("no day", x.game(0, 1, 0, 0), BAD);
        due("alike", x.game(1, 1, 1, 0), BAD);
        due("what = 2", x.game(0, 1, 1, 2), BAD);
        // With a curate 0 would come ahead of 1 and keep it out.
        LodgingNames y = laid("p0,0,30;p2,1,30;p0,0,0;n3,0;n20,0;c2,1,1;", 3);
        due("1 or none by three", y.game(0, 1, 1, 0), 2 * 3);
        due("1 first", y.game(0, 1, 1, 1), 10);
        // 0 is 9 stout with him and called no more: behind eight days it is there still, so that
        // 1 makes 7 of it; behind ten it is there only if it is said anew.
        LodgingNames z = laid("p0,0,30;p0,3,30;p0,0,0;n3,0;n4,0;c2,1,0;", 3);
        z.pass(9);
        z.say(2, 1, 0);
        due("1 makes 7", z.game(0, 1, 8, 1), 10);
        due("1 makes 4, 0 but 3", z.game(0, 1, 10, 1), 10);
        due("1 by three", z.game(0, 1, 10, 0), 3);
        // Twelve words are there: one more is called all the same.
        LodgingNames w = laid("p0,0,0;p0,1,30;p4,0,0;n3,0;n9,0;n1,0;n1,0;n1,0;n1,0;n1,0;n1,0;"
                + "c0,2,0;c0,2,1;c0,2,2;c0,2,3;c0,2,4;c0,2,5;c0,2,6;c0,2,7;c1,2,0;c1,2,1;c1,2,2;c1,2,3;", 3);
        due("twelve words", w.count(2), 12);
        due("a thirteenth", w.game(0, 1, 1, 1), 10);
    }

    // ---- 20 to 23: what was seen

    private static void seeAndForget() {
        LodgingNames x = new LodgingNames();
        due("see(0, 0, 0, 0)", x.see(0, 0, 0, 0), BAD);
        due("see(0, 0, 21, 0)", x.see(0, 0, 21, 0), BAD);
        due("see(0, 0, 1, -1)", x.see(0, 0, 1, -1), BAD);
        due("see(0, 0, 1, 10)", x.see(0, 0, 1, 10), BAD);
        due("see(5, 0, 1, 0)", x.see(5, 0, 1, 0), BAD);
        due("see(0, 5, 1, 0)", x.see(0, 5, 1, 0), BAD);
        for (int k = 1; k <= 6; k++) {
            due("see", x.see(0, 0, 20, 9), k);
        }
        due("a seventh", x.see(0, 0, 20, 9), FULL);
        due("bad before full", x.see(0, 0, 21, 9), BAD);
        due("count(7)", x.count(7), 6);
        due("forget()", x.forget(), 6);
        due("forget() again", x.forget(), 0);
        due("see again", x.see(0, 0, 1, 0), 1);
    }

    private static void said() {
        LodgingNames x = laid("p0,2,30;p0,2,30;p0,2,30;n3,0;n5,0;c1,0,0;", 3);
        due("nothing seen", x.said(1, 0), 256 + 3);
        x.see(0, 0, 2, 4);
        // By two for two days: by 2, as 1 says it already.
        due("by 2, name 0", x.said(2, 0), 1);
        due("by 1 it would be no more", x.said(1, 0), 0);
        due("said of another", x.said(0, 1), 0);
        x.say(2, 0, 0);
        due("as it is, and by any", x.said(2, 0), 256 + 3);
        x.see(0, 1, 1, 0);
        due("but not by 1", x.said(2, 0), 256 + 1);
        due("alike", x.said(2, 2), BAD);
        due("said(3, 0)", x.said(3, 0), BAD);
        due("said(0, -1)", x.said(0, -1), BAD);
        x.pass(1);
        due("two days from when it is asked", x.said(2, 0), 0);
        x.undo();
        due("so again", x.said(2, 0), 256 + 1);
        x.forget();
        x.see(2, 1, 1, 1);
        due("of 2 by 1", x.said(1, 2), 2);
        due("of 2 by 0", x.said(0, 2), 2);
        due("of 0 nothing helps", x.said(1, 0), 0);
    }

    private static void whose() {
        LodgingNames x = laid("p0,2,30;p0,2,30;p0,2,30;n3,0;n5,0;c1,0,1;c2,0,1;c0,1,0;", 3);
        due("by 1 and 2", x.whose(0, 1), 6);
        due("by none", x.whose(0, 0), 0);
        due("by 0", x.whose(1, 0), 1);
        x.say(1, 0, 1);
        due("by 2", x.whose(0, 1), 4);
        due("whose(3, 0)", x.whose(3, 0), BAD);
        due("whose(0, 2)", x.whose(0, 2), BAD);
    }

    // ---- 24 to 28: chance, years

    private static void dueChance(LodgingNames x, int p, int n, int tenths, long above, long below) {
        due("chance above", x.chance(p, n, tenths, 0), above);
        due("chance below", x.chance(p, n, tenths, 1), below);
    }

    private static void chance() {
        LodgingNames x = laid("p0,1,30;p0,2,30;p0,2,30;n3,0;n5,0;c1,0,0;c2,0,0;c1,0,1;", 3);
        dueChance(x, 0, 1, 4, 2, 5);
        // 0 by one of the two at least, and 1 not: (1 - 0.36) times 0.6.
        dueChance(x, 0, 0, 4, 48, 125);
        dueChance(x, 0, 0, 0, 0, 1);
        dueChance(x, 0, 1, 10, 1, 1);
        dueChance(x, 0, 0, 10, 0, 1);
        dueChance(x, 1, 0, 5, 0, 1);
        x.pass(2);
        // 1 lodges, 2 stout: it stays in any case, 1 thinner at worst.
        dueChance(x, 0, 1, 3, 1, 1);
        x.say(1, 0, 1);
        x.mend(0);
        dueChance(x, 0, 1, 3, 0, 1);
        due("chance(0, 0, 11, 0)", x.chance(0, 0, 11, 0), BAD);
        due("chance(0, 0, -1, 0)", x.chance(0, 0, -1, 0), BAD);
        due("chance(0, 0, 1, 2)", x.chance(0, 0, 1, 2), BAD);
        due("chance(0, 2, 1, 0)", x.chance(0, 2, 1, 0), BAD);
        // Twelve words of one, by four names each of three: all below 10 to the 12th.
        LodgingNames y = laid("p0,5,30;p0,0,0;p0,0,0;p0,0,0;n0,0;n0,0;n0,0;n0,0;"
                + "c1,0,0;c2,0,0;c3,0,0;c1,0,1;c2,0,1;c3,0,1;c1,0,2;c2,0,2;c3,0,2;c1,0,3;c2,0,3;c3,0,3;", 4);
        dueChance(y, 0, 3, 3, 657, 1000);
        LodgingNames z = laid("p0,1,30;p0,0,0;p0,0,0;p0,0,0;n0,0;n0,0;n0,0;n0,0;"
                + "c1,0,0;c2,0,0;c3,0,0;c1,0,1;c2,0,1;c3,0,1;c1,0,2;c2,0,2;c3,0,2;c1,0,3;c2,0,3;c3,0,3;", 4);
        // The last gets the one bed if none of the nine words before it is said: 0.7 to the 9th times 0.657.
        dueChance(z, 0, 3, 3, 40353607L * 657, 1000000000000L);
    }

    private static void year() {
        LodgingNames x = new LodgingNames();
        due("year(5, 60, 0)", x.year(5, 60, 0), 7);
        due("year(5, 60, 1)", x.year(5, 60, 1), 41);
        due("year(-1, 1, 0)", x.year(-1, 1, 0), BAD);
        due("year(10000, 1, 0)", x.year(10000, 1, 0), BAD);
        due("year(0, 0, 0)", x.year(0, 0, 0), BAD);
        due("year(0, 61, 0)", x.year(0, 61, 0), BAD);
        due("year(0, 1, 2)", x.year(0, 1, 2), BAD);
        due("nothing goes by", x.count(4), 0);
        due("no word is taken up", x.count(2), 8);
        // z 0, day 0: DRAW is 1: 1 calls 0 by 0. Day 1: x is 6152, DRAW 41487 (6152 times 6152 is
        // 37847104, less 577 times 65521): 41487 is odd, by 64 it is 648: 1 calls 0 by name 0
        // (5185 modulo 1), it is dropped.
        LodgingNames y = laid("p0,1,30;p0,0,30;n3,0;", 2);
        due("one day", y.year(0, 1, 0), 1);
        due("two days", y.year(0, 2, 0), 0);
        due("nobody without", y.year(0, 2, 1), 0);
        LodgingNames z = laid("p0,0,30;p0,0,30;n3,0;", 2);
        due("without on the first day", z.year(0, 1, 1), 1);
        due("and not on the second", z.year(0, 2, 1), 1);
        z.pass(3);
        due("only in these days", z.year(0, 1, 1), 1);
        z.say(1, 0, 0);
        z.pass(3);
        due("three so far", z.count(5), 3);
        due("it is dropped", z.year(0, 1, 1), 0);
        due("and taken up", z.year(0, 2, 1), 1);
        due("laid anew", laidAnew(z), 0);
        // The highest z on the highest day: no number runs over.
        due("year(9999, 60, 0)", new LodgingNames().year(9999, 60, 0), new Model().year(9999, 60, 0));
        due("year(9999, 60, 1)", new LodgingNames().year(9999, 60, 1), new Model().year(9999, 60, 1));
    }

    private static int laidAnew(LodgingNames x) {
        due("lay()", x.lay(), 2);
        return x.count(5);
    }

    private static void keepAndBack() {
        LodgingNames x = new LodgingNames();
        x.pass(2);
        due("keep()", x.keep(), 1);
        x.say(0, 1, 0);
        x.pass(3);
        due("keep() again", x.keep(), 2);
        due("a third", x.keep(), FULL);
        x.mend(1);
        x.write('q');
        x.see(0, 0, 1, 0);
        due("back()", x.back(), 1);
        due("as kept last", x.count(4), 5);
        due("THE TEXT stays", x.count(10), 1);
        due("SEEN stays", x.count(7), 1);
        due("nothing is undone", x.undo(), NO);
        x.pass(1);
        due("back() again", x.back(), 0);
        due("days", x.count(4), 2);
        due("word", x.calls(0, 1, 0), 1);
        due("stout", x.stout(1, 0), 4);
        due("nothing is undone", x.count(8), 0);
        due("none kept", x.back(), NO);
        x.keep();
        due("count(9)", x.count(9), 1);
        x.pass(1);
        due("undo leaves what is kept", x.undo(), 0);
        due("count(9)", x.count(9), 1);
        LodgingNames y = laid("p0,0,0;p0,0,0;n0,0;c1,0,0;", 2);
        y.pass(3);
        y.keep();
        y.pass(3);
        due("no bed", y.count(5), 6);
        y.back();
        due("no bed as kept", y.count(5), 3);
    }

    private static void count() {
        LodgingNames x = laid("p0,1,30;p0,1,30;p0,1,30;n3,0;n5,0;c1,0,0;c2,0,1;c0,1,0;q11;", 3);
        x.pass(2);
        x.pass(3);
        x.see(0, 0, 1, 0);
        x.keep();
        // 0 comes and 1 in its place on day 1; then 0 has no bed on four days.
        int[] counts = {3, 2, 3, 2, 5, 4, 11, 1, 2, 1, 59};
        for (int what = 0; what < counts.length; what++) {
            due("count(" + what + ")", x.count(what), counts[what]);
        }
        due("count(-1)", x.count(-1), BAD);
        due("count(11)", x.count(11), BAD);
    }

    // ---- BAD, as to PERSONS and NAMES

    private static void wrongNumbers() {
        LodgingNames x = new LodgingNames();
        int[] wrong = {-1, 5, 6, 8, Integer.MAX_VALUE, Integer.MIN_VALUE};
        for (int w : wrong) {
            String s = "with " + w + ": ";
            due(s + "person", x.person(w, 0), BAD);
            due(s + "person's what", x.person(0, w == 5 ? 7 : w), BAD);
            due(s + "name", x.name(w, 0), BAD);
            due(s + "name's what", x.name(0, w), BAD);
            due(s + "stout", x.stout(w, 0), BAD);
            due(s + "stout", x.stout(0, w), BAD);
            due(s + "calls", x.calls(w, 0, 0), BAD);
            due(s + "calls", x.calls(0, w, 0), BAD);
            due(s + "calls", x.calls(0, 1, w), BAD);
            due(s + "say", x.say(w, 0, 0), BAD);
            due(s + "say", x.say(0, w, 0), BAD);
            due(s + "say", x.say(0, 1, w), BAD);
            due(s + "mend", x.mend(w), BAD);
            due(s + "behind", x.behind(1, w, 0), BAD);
            due(s + "behind", x.behind(1, 0, w), BAD);
            due(s + "load", x.load(w, 0), BAD);
            due(s + "load", x.load(0, w), BAD);
            due(s + "out", x.out(w, 0, 1, 0), BAD);
            due(s + "out", x.out(0, w, 1, 0), BAD);
            due(s + "out", x.out(0, 0, 1, w), BAD);
            due(s + "rooms", x.rooms(w), BAD);
            due(s + "game", x.game(w, 0, 1, 0), BAD);
            due(s + "game", x.game(0, w, 1, 0), BAD);
            due(s + "game", x.game(0, 1, 1, w), BAD);
            due(s + "see", x.see(w, 0, 1, 0), BAD);
            due(s + "see", x.see(0, w, 1, 0), BAD);
            due(s + "said", x.said(w, 0), BAD);
            due(s + "said", x.said(0, w), BAD);
            due(s + "whose", x.whose(w, 0), BAD);
            due(s + "whose", x.whose(0, w), BAD);
            due(s + "chance", x.chance(w, 0, 1, 0), BAD);
            due(s + "chance", x.chance(0, w, 1, 0), BAD);
            due(s + "chance", x.chance(0, 0, 1, w), BAD);
            due(s + "year", x.year(0, 1, w), BAD);
        }
        due("alike", x.calls(2, 2, 0), BAD);
        due("alike", x.say(2, 2, 0), BAD);
        due("alike", x.game(2, 2, 1, 0), BAD);
        due("out of no days", x.out(0, 0, 0, 0), BAD);
        due("out of 21 days", x.out(0, 0, 21, 0), BAD);
        due("nothing changed: undone", x.count(8), 0);
        due("nothing changed: words", x.count(2), 8);
    }
}
