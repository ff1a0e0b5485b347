import java.util.Random;

/** Runs of calls drawn by written seeds, on the class and on the model at once. */
public final class ModelTest {
    private static final int RUNS = 3000;
    // Nothing is promised of later calls; a turn makes so many of them at most.
    private static final int MOST_CALLS = 512;
    private static final int MOST_AT_ONCE = 4;

    private final Random random;
    private final LodgingNames real = new LodgingNames();
    private final Model model = new Model();
    private final String run;
    private int calls = 0;

    private ModelTest(int seed) {
        random = new Random(seed);
        run = "seed " + seed + ": ";
    }

    public static void main(String[] args) {
        for (int seed = 0; seed < RUNS && !Due.hasFailed(); seed++) {
            new ModelTest(seed).go();
        }
        Due.end("ModelTest");
    }

    private void go() {
        if (random.nextInt(5) > 0) {
            layNew();
        }
        while (calls <= MOST_CALLS - MOST_AT_ONCE && !Due.hasFailed()) {
            if (random.nextInt(150) == 0 && calls < 200) {
                layNew();
            }
            call();
        }
    }

    private void due(String what, long got, long want) {
        calls++;
        Due.due(run + "call " + calls + ", " + what, got, want);
    }

    private void layNew() {
        due("wipe()", real.wipe(), model.wipe());
        String text = new Texts(random).draw();
        for (int k = 0; k < text.length() && calls < MOST_CALLS - 60; k++) {
            int letter = text.charAt(k);
            due("write(" + letter + ")", real.write(letter), model.write(letter));
        }
        due("fault()", real.fault(), model.fault());
        due("lay() of " + text, real.lay(), model.lay());
    }

    /** Mostly from low to high, now and then one beyond, or far off. */
    private int number(int low, int high) {
        switch (random.nextInt(60)) {
            case 0: return low - 1;
            case 1: return high + 1;
            case 2: return random.nextInt();
            default: return low + random.nextInt(high - low + 1);
        }
    }

    private int person() {
        return number(0, Math.max(0, model.count(0) - 1));
    }

    private int name() {
        return number(0, Math.max(0, model.count(1) - 1));
    }

    private void call() {
        switch (random.nextInt(32)) {
            case 0: case 1: case 2: callPass(); break;
            case 3: case 4: case 5: case 6: case 7: callSay(); break;
            case 8: callMend(); break;
            case 9: due("undo()", real.undo(), model.undo()); break;
            case 10: callBehind(); break;
            case 11: callHomeless(); break;
            case 12: callLoad(); break;
            case 13: case 14: callOut(); break;
            case 15: callRooms(); break;
            case 16: case 17: callGame(); break;
            case 18: case 19: callSee(); break;
            case 20: callSaid(); break;
            case 21: callWhose(); break;
            case 22: callChance(); break;
            case 23: callYear(); break;
            case 24: due("keep()", real.keep(), model.keep()); break;
            case 25: due("back()", real.back(), model.back()); break;
            case 26: callCount(); break;
            case 27: callPerson(); break;
            case 28: callName(); break;
            case 29: callStout(); break;
            case 30: callCalls(); break;
            default: callSeldom(); break;
        }
    }

    private void callSeldom() {
        if (random.nextInt(3) == 0) {
            due("forget()", real.forget(), model.forget());
        } else if (random.nextInt(3) == 0) {
            due("lay()", real.lay(), model.lay());
        } else if (random.nextInt(10) == 0) {
            due("wipe()", real.wipe(), model.wipe());
        } else {
            int letter = number(32, 126);
            due("write(" + letter + ")", real.write(letter), model.write(letter));
            due("fault()", real.fault(), model.fault());
        }
    }

    private void callPass() {
        int n = random.nextBoolean() ? number(1, 4) : number(1, 20);
        due("pass(" + n + ")", real.pass(n), model.pass(n));
        for (int what = 3; what <= 5; what++) {
            due("count(" + what + ")", real.count(what), model.count(what));
        }
    }

    private void callSay() {
        int i = person();
        int j = random.nextBoolean() ? 0 : person();
        int n = name();
        due("say(" + i + ", " + j + ", " + n + ")", real.say(i, j, n), model.say(i, j, n));
    }

    private void callMend() {
        int p = person();
        due("mend(" + p + ")", real.mend(p), model.mend(p));
    }

    private void callBehind() {
        int d = number(0, 40);
        int p = person();
        int n = name();
        due("behind(" + d + ", " + p + ", " + n + ")", real.behind(d, p, n), model.behind(d, p, n));
    }

    private void callHomeless() {
        int what = number(0, 1);
        due("homeless(" + what + ")", real.homeless(what), model.homeless(what));
    }

    private void callLoad() {
        int p = person();
        int what = number(0, 1);
        due("load(" + p + ", " + what + ")", real.load(p, what), model.load(p, what));
    }

    private void callOut() {
        int p = person();
        int n = name();
        int d = random.nextBoolean() ? number(1, 3) : number(1, 20);
        int k = number(0, 2);
        due("out(" + p + ", " + n + ", " + d + ", " + k + ")", real.out(p, n, d, k), model.out(p, n, d, k));
    }

    private void callRooms() {
        int p = person();
        due("rooms(" + p + ")", real.rooms(p), model.rooms(p));
    }

    private void callGame() {
        int i = person();
        int j = person();
        int d = number(1, 10);
        int w = number(0, 1);
        due("game(" + i + ", " + j + ", " + d + ", " + w + ")", real.game(i, j, d, w), model.game(i, j, d, w));
    }

    private void callSee() {
        int p = person();
        int n = name();
        int d = number(1, 20);
        // Mostly what will be so, for else hardly anything that is SEEN would ever hold.
        int v = random.nextInt(4) > 0 ? Math.max(0, model.behind(d, p, n)) : number(0, 9);
        due("see(" + p + ", " + n + ", " + d + ", " + v + ")", real.see(p, n, d, v), model.see(p, n, d, v));
        callSaid();
    }

    private void callSaid() {
        int i = person();
        int j = person();
        due("said(" + i + ", " + j + ")", real.said(i, j), model.said(i, j));
    }

    private void callWhose() {
        int p = person();
        int n = name();
        due("whose(" + p + ", " + n + ")", real.whose(p, n), model.whose(p, n));
    }

    private void callChance() {
        int p = person();
        int n = name();
        int x = number(0, 10);
        int part = number(0, 1);
        due("chance(" + p + ", " + n + ", " + x + ", " + part + ")", real.chance(p, n, x, part), model.chance(p, n, x, part));
    }

    private void callYear() {
        int z = number(0, 9999);
        int n = number(1, 60);
        int what = number(0, 1);
        due("year(" + z + ", " + n + ", " + what + ")", real.year(z, n, what), model.year(z, n, what));
    }

    private void callCount() {
        int what = number(0, 10);
        due("count(" + what + ")", real.count(what), model.count(what));
    }

    private void callPerson() {
        int p = person();
        int what = number(0, 4);
        due("person(" + p + ", " + what + ")", real.person(p, what), model.person(p, what));
    }

    private void callName() {
        int n = name();
        int what = number(0, 1);
        due("name(" + n + ", " + what + ")", real.name(n, what), model.name(n, what));
    }

    private void callStout() {
        int p = person();
        int n = name();
        due("stout(" + p + ", " + n + ")", real.stout(p, n), model.stout(p, n));
    }

    private void callCalls() {
        int i = person();
        int j = person();
        int n = name();
        due("calls(" + i + ", " + j + ", " + n + ")", real.calls(i, j, n), model.calls(i, j, n));
    }
}
