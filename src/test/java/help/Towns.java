import java.util.function.Supplier;

/** What the tests of edges share: a small town, and calls at and beyond the ends of a range. */
final class Towns {
    static final int NONE = FrameRents.NONE;

    /** A call with one number that matters, a boolean as 1 or 0. */
    interface Call {
        long on(FrameRents x, int n);
    }

    private Towns() {
    }

    /** Two houses, a bagman (2) of the first one; knitters of 3 and 5 heads; frame 0 of house 0, 1 of the bagman, 2 knitter 1's own for house 1. */
    static FrameRents town() {
        FrameRents x = new FrameRents();
        x.master(NONE);
        x.master(NONE);
        x.master(0);
        x.knitter(3);
        x.knitter(5);
        x.frame(20, 0, NONE);
        x.frame(30, 2, NONE);
        x.frame(40, 1, 1);
        return x;
    }

    static FrameRents townWith(String... lists) {
        FrameRents x = town();
        for (int i = 0; i < lists.length; i++) Check.due("list " + lists[i], Check.list(x, lists[i]), i);
        return x;
    }

    /** The town with a list that all masters use, and frames 0 and 1 hired by knitter 0. */
    static FrameRents working(String list) {
        FrameRents x = townWith(list);
        for (int m = 0; m < 3; m++) x.uses(m, 0);
        x.hire(0, 0);
        x.hire(1, 0);
        return x;
    }

    /** All of 18 that may owe. */
    static FrameRents eighteen() {
        FrameRents x = new FrameRents();
        for (int m = 0; m < 6; m++) x.master(NONE);
        for (int k = 0; k < 12; k++) x.knitter(1);
        return x;
    }

    static long of(boolean is) {
        return is ? 1 : 0;
    }

    /** At both ends of a range a call is taken; just beyond them, and far beyond, it answers as a refused one. */
    static void range(String what, int least, int most, long refusal, Supplier<FrameRents> made, Call call) {
        for (int n : new int[] {least, most}) {
            Check.due(what + " " + n + " is taken", call.on(made.get(), n) != refusal, true);
        }
        for (int n : new int[] {least - 1, most + 1, Integer.MIN_VALUE, Integer.MAX_VALUE}) {
            Check.due(what + " " + n, call.on(made.get(), n), refusal);
        }
    }
}
