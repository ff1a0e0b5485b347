import java.util.function.ToLongFunction;

/** What the tests of the document's edges have in common. */
final class Edges {
    static final int BAD = -1, NO = -2, FULL = -3, NONE = -4;
    static final int[] FAR_OFF = {Integer.MIN_VALUE, -1000, 1000, Integer.MAX_VALUE};

    private Edges() {
    }

    /** A new object with this for its TEXT. */
    static LodgingNames written(String text) {
        LodgingNames x = new LodgingNames();
        write(x, text);
        return x;
    }

    static void write(LodgingNames x, String text) {
        for (int k = 0; k < text.length(); k++) {
            if (x.write(text.charAt(k)) < 1) {
                Due.due("write of " + text, 0, 1);
            }
        }
    }

    /** A new object in which this is LAID. */
    static LodgingNames laid(String text) {
        LodgingNames x = written(text);
        if (x.lay() < 1) {
            Due.due("lay of " + text, 0, 1);
        }
        return x;
    }

    static String times(String item, int many) {
        return item.repeat(many);
    }

    static void fault(String text, int want) {
        Due.due("fault of " + text, written(text).fault(), want);
    }

    static int lay(String text) {
        return written(text).lay();
    }

    /** A call that is refused: it answers so, and nothing changes. */
    static void refused(String what, LodgingNames x, ToLongFunction<LodgingNames> call, int want) {
        String before = picture(x);
        Due.due(what, call.applyAsLong(x), want);
        Due.due("changed by " + what, picture(x).equals(before) ? 0 : 1, 0);
    }

    /** A call that only asks: nothing changes. */
    static void asks(String what, LodgingNames x, ToLongFunction<LodgingNames> call) {
        String before = picture(x);
        call.applyAsLong(x);
        Due.due("changed by " + what, picture(x).equals(before) ? 0 : 1, 0);
    }

    /** All that can be seen of a port, but what is SEEN and KEPT by more than how much it is. */
    static String picture(LodgingNames x) {
        StringBuilder all = new StringBuilder();
        for (int what = 0; what <= 10; what++) {
            all.append(x.count(what)).append(' ');
        }
        for (int p = 0; p < x.count(0); p++) {
            for (int n = 0; n < x.count(1); n++) {
                all.append(x.stout(p, n)).append(',').append(x.whose(p, n)).append(' ');
            }
        }
        return all.append(x.fault()).toString();
    }

    /** How stout all NAMES are with a PERSON, NAME 0 by the first figure. */
    static int stouts(LodgingNames x, int p) {
        int all = 0;
        for (int n = 0; n < x.count(1); n++) {
            all = 10 * all + x.stout(p, n);
        }
        return all;
    }
}
