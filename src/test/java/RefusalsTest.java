import java.util.ArrayList;
import java.util.List;
import java.util.function.Consumer;

/**
 * "A call that is refused (NONE, false) changes nothing but the tape, where it is told": two towns are told the
 * same, one is asked one call more that is refused, and then both must answer the same to everything.
 */
public final class RefusalsTest {
    private static final int NONE = FrameRents.NONE;
    private static final long NO_GAIN = Check.NO_GAIN;
    private static final String TEXT = "W=d*70+A;A=w+i;R=A_9;T=W/3";
    private static final int MOST = Integer.MAX_VALUE;
    private static final int LEAST = Integer.MIN_VALUE;

    private static int refusals = 0;

    /** A call that is refused, and its answer. */
    private interface Refused {
        long on(FrameRents x);
    }

    public static void main(String[] args) {
        twinsCanDiffer();
        ownMemory();
        people();
        frames();
        texts();
        entries();
        questions();
        numbers();
        books();
        orders();
        lots();
        debts();
        fund();
        fullTown();
        fullLists();
        fullActs();
        fullEntries();
        fullBook();
        fullLots();
        fullTape();
        emptyTown();
        faults();
        rows();
        System.out.println(refusals + " refused calls");
        Check.end();
    }

    // ---- the town, and all that it answers

    private static void nothing(FrameRents x) {
    }

    /** Some of everything; about fifty calls. */
    private static FrameRents told() {
        FrameRents x = Towns.town();
        x.knitter(1);
        x.frame(15, 0, NONE);
        x.frame(35, 2, 2);
        Check.list(x, "W=d*100+n;R=30+i;C=7;T=d*20");
        Check.list(x, "W=d*90;R=f*10;C=y");
        Check.act(x, 0, 5, "R_33");
        x.uses(0, 0);
        x.uses(2, 1);
        x.uses(1, 0);
        x.hire(0, 0);
        x.hire(1, 1);
        x.entry(0, 0, 1, 4, 5, 100, 95);
        x.entry(1, 0, 2, 3, 0, 50, 50);
        x.tells(2, 0, 2, 1);
        x.number(0, 500);
        x.number(1, 7);
        x.number(2, 10);
        x.number(10, 20);
        x.lot(5);
        x.lot(7);
        x.told(0, 1);
        x.owes(0, 6, 100);
        x.owes(7, 1, 30);
        x.fund(500);
        x.strike(0, true);
        x.goes();
        x.entry(0, 1, 1, 2, 0, 60, 55);
        x.entry(2, 0, 3, 9, 1, 10, 9);
        x.spread(0, 1, 10, 2, 3, 150);
        return x;
    }

    private static FrameRents toldWithTape() {
        FrameRents x = told();
        Check.feed(x, Check.bytesOf(TEXT));
        return x;
    }

    /** Everything that can be asked of it, and then calls that change it; about 260 calls. */
    private static List<Long> answers(FrameRents x) {
        List<Long> all = new ArrayList<>();
        looks(x, all);
        weeks(x, all);
        money(x, all);
        tape(x, all);
        changes(x, all);
        return all;
    }

    private static void looks(FrameRents x, List<Long> all) {
        for (int what = 0; what < 12; what++) all.add((long) x.count(what));
        for (int f = 0; f < 6; f++) all.add((long) x.count(20 + f));
        for (int l = 0; l < 3; l++) all.add((long) x.count(40 + l));
        for (int e = 0; e < 5; e++) {
            for (int what = 0; what < 8; what++) all.add((long) x.look(e, what));
            all.add((long) x.amiss(e));
        }
        for (int l = 0; l < 3; l++) all.add((long) x.is(l));
        for (int f = 0; f < 5; f++) all.add((long) x.share(f));
        for (int m = 0; m < 3; m++) {
            for (int w = 0; w < 3; w++) all.add((long) x.listOf(m, w));
        }
    }

    private static void weeks(FrameRents x, List<Long> all) {
        for (int f = 0; f < 5; f++) {
            for (int what = 0; what < 8; what++) all.add(x.week(f, f % 2, 1, what));
            all.add(x.week(f, 1 - f % 2, 0, 4));
        }
        for (int k = 0; k < 3; k++) {
            all.add(x.earned(k, 0, 0, false));
            all.add(x.earned(k, 1, 1, true));
        }
        for (int i = 0; i < 3; i++) {
            for (int what = 0; what < 4; what++) all.add((long) x.differs(2, i, what));
        }
        all.add(x.beside(0, 1, 0, 1));
        all.add(x.beside(2, 0, 0, 0));
    }

    private static void money(FrameRents x, List<Long> all) {
        for (int a : new int[] {0, 1, 2, 6, 7, 8}) all.add(x.net(a));
        all.add((long) x.payments());
        all.add((long) x.lasts());
    }

    /** What is on the tape, and the order that judge() knows. */
    private static void tape(FrameRents x, List<Long> all) {
        int l = x.list(TEXT.length());
        all.add((long) l);
        all.add((long) x.count(10));
        for (char letter : new char[] {'W', 'A', 'T'}) all.add(Check.worth(x, Math.max(0, l), letter, 20, 3, 0, 0, 0, 0, 0, 5, 0, 7));
        Check.feed(x, 10);
        all.add(x.judge(1));
        all.add((long) x.share(0));
    }

    private static void changes(FrameRents x, List<Long> all) {
        all.add((long) x.master(0));
        all.add((long) x.knitter(4));
        all.add((long) x.frame(20, 0, NONE));
        all.add(Towns.of(x.hire(3, 2)));
        all.add(Towns.of(x.back(1)));
        all.add((long) Check.act(x, 0, 0, "W_55"));
        all.add(Towns.of(x.uses(0, 1)));
        all.add((long) x.entry(0, 1, 4, 5, 6, 7, 8));
        all.add(x.week(0, 1, 1, 0));
        all.add(x.week(0, 0, 1, 0));
        all.add(Towns.of(x.tells(2, 1, 0, 6)));
        all.add((long) x.differs(2, 1, 2));
        all.add((long) x.lot(6));
        all.add((long) x.is(2));
        all.add(Towns.of(x.owes(6, 7, 70)));
        all.add((long) x.payments());
        all.add(Towns.of(x.clear()));
        all.add(Towns.of(x.clear()));
        all.add((long) x.fund(5));
        all.add(Towns.of(x.strike(1, true)));
        all.add((long) x.lasts());
        all.add((long) x.goes());
        all.add(x.spread(0, 2, 30, 1, 1, 99));
        for (int what = 0; what < 12; what++) all.add((long) x.count(what));
    }

    private static void refused(String call, long answer, Refused refused) {
        refused(call, answer, RefusalsTest::nothing, refused);
    }

    /** The call on one of two towns that were told the same, and some more first. */
    private static void refused(String call, long answer, Consumer<FrameRents> more, Refused refused) {
        FrameRents asked = toldWithTape();
        FrameRents other = toldWithTape();
        more.accept(asked);
        more.accept(other);
        refusals++;
        Check.due(call, refused.on(asked), answer);
        same(call, answers(asked), answers(other));
    }

    private static void same(String call, List<Long> got, List<Long> want) {
        Check.due(call + ": as many answers", got.size(), want.size());
        for (int i = 0; i < want.size(); i++) {
            if (!got.get(i).equals(want.get(i))) Check.due("behind " + call + ": answer " + i, got.get(i), want.get(i));
        }
    }

    private static long of(boolean is) {
        return Towns.of(is);
    }

    /** So that the others say something: calls that are not refused are seen in the answers. */
    private static void twinsCanDiffer() {
        List<Long> want = answers(toldWithTape());
        List<Refused> taken = List.of(x -> x.master(NONE), x -> x.knitter(1), x -> x.frame(20, 0, NONE), x -> of(x.hire(3, 0)), x -> of(x.back(0)),
            x -> x.feed(0, 0, 0, 0, 0), x -> x.list(TEXT.length()), x -> x.act(0, 0, 3), x -> of(x.uses(0, 1)), x -> x.worth(0, 0),
            x -> x.entry(0, 0, 0, 0, 0, 0, 0), x -> of(x.number(0, 499)), x -> of(x.number(1, 0)), x -> of(x.number(2, 11)),
            x -> of(x.number(10, 200)), x -> of(x.tells(2, 0, 2, 2)), x -> x.spread(0, 1, 11, 2, 3, 150), x -> x.spread(0, 1, 10, 2, 3, 151),
            x -> x.judge(1), x -> x.lot(0), x -> of(x.told(0, 2)), x -> of(x.owes(0, 1, 1)), x -> of(x.clear()), x -> x.fund(1),
            x -> of(x.strike(2, true)), x -> of(x.strike(0, false)), x -> x.goes());
        for (int i = 0; i < taken.size(); i++) {
            FrameRents x = toldWithTape();
            taken.get(i).on(x);
            Check.due("call " + i + " is seen", answers(x).equals(want), false);
        }
    }

    /** "All memory is the town's own": what one town is told, another one does not know. */
    private static void ownMemory() {
        FrameRents made = new FrameRents();
        FrameRents told = toldWithTape();
        same("calls on another town", answers(made), answers(new FrameRents()));
        answers(toldWithTape());
        same("calls on other towns", answers(told), answers(toldWithTape()));
    }

    // ---- each call's refusals

    private static void people() {
        for (int house : new int[] {2, 3, -2, MOST, LEAST}) refused("master " + house, NONE, x -> x.master(house));
        for (int heads : new int[] {0, 10, -1, MOST, LEAST}) refused("knitter " + heads, NONE, x -> x.knitter(heads));
    }

    private static void frames() {
        for (int gauge : new int[] {9, 41, MOST, LEAST}) refused("frame of gauge " + gauge, NONE, x -> x.frame(gauge, 0, NONE));
        for (int m : new int[] {3, -1, MOST, LEAST}) refused("frame of master " + m, NONE, x -> x.frame(20, m, NONE));
        for (int k : new int[] {3, -2, MOST, LEAST}) refused("frame of knitter " + k, NONE, x -> x.frame(20, 0, k));
        for (int f : new int[] {5, -1, MOST, LEAST}) {
            refused("hire " + f, 0, x -> of(x.hire(f, 0)));
            refused("back " + f, 0, x -> of(x.back(f)));
        }
        for (int k : new int[] {3, -1, MOST, LEAST}) refused("hire by " + k, 0, x -> of(x.hire(3, k)));
        refused("hire one's own", 0, x -> of(x.hire(2, 1)));
        refused("hire one's own, by another", 0, x -> of(x.hire(2, 0)));
        refused("hire what is hired", 0, x -> of(x.hire(0, 0)));
        refused("hire what is hired, by another", 0, x -> of(x.hire(0, 1)));
        refused("back of one's own", 0, x -> of(x.back(2)));
        refused("back of what is not hired", 0, x -> of(x.back(3)));
    }

    private static void texts() {
        for (int n : new int[] {0, -1, 41, 200, 201, MOST, LEAST}) {
            refused("list of " + n, NONE, x -> x.list(n));
            refused("act of " + n, NONE, x -> x.act(0, 0, n));
        }
        for (int week : new int[] {-1, 520, MOST, LEAST}) {
            refused("act from " + week, NONE, x -> x.act(week, 519, 5));
            refused("act to " + week, NONE, x -> x.act(0, week, 5));
        }
        refused("act from behind to", NONE, x -> x.act(4, 3, 5));
        for (int m : new int[] {3, -1, MOST, LEAST}) {
            refused("uses by " + m, 0, x -> of(x.uses(m, 1)));
            refused("list of " + m, NONE, x -> x.listOf(m, 0));
        }
        for (int l : new int[] {2, -1, MOST, LEAST}) {
            refused("uses " + l, 0, x -> of(x.uses(0, l)));
            refused("worth of list " + l, 0, x -> x.worth(l, 22));
        }
        refused("uses what it is", 0, x -> of(x.uses(0, 0)));
        for (int letter : new int[] {26, -1, MOST, LEAST}) refused("worth of letter " + letter, 0, x -> x.worth(0, letter));
        for (int week : new int[] {520, -1, MOST, LEAST}) refused("list in " + week, NONE, x -> x.listOf(0, week));
    }

    private static void entries() {
        for (int f : new int[] {5, -1, MOST, LEAST}) refused("entry for frame " + f, NONE, x -> x.entry(f, 0, 1, 1, 1, 1, 1));
        for (int w : new int[] {2, -1, 519, MOST, LEAST}) refused("entry for week " + w, NONE, x -> x.entry(0, w, 1, 1, 1, 1, 1));
        for (int n : new int[] {10, -1, MOST, LEAST}) refused("entry of shape " + n, NONE, x -> x.entry(0, 0, n, 1, 1, 1, 1));
        for (int n : new int[] {100, -1, MOST, LEAST}) refused("entry of dozens " + n, NONE, x -> x.entry(0, 0, 1, n, 1, 1, 1));
        for (int n : new int[] {1000, -1, MOST, LEAST}) refused("entry of narrowings " + n, NONE, x -> x.entry(0, 0, 1, 1, n, 1, 1));
        for (int n : new int[] {10000, -1, MOST, LEAST}) refused("entry of yarn " + n, NONE, x -> x.entry(0, 0, 1, 1, 1, n, 1));
        for (int n : new int[] {10000, -1, MOST, LEAST}) refused("entry of hose " + n, NONE, x -> x.entry(0, 0, 1, 1, 1, 1, n));
    }

    private static void questions() {
        for (int n : new int[] {-1, 520, MOST, LEAST}) {
            refused("week " + n, NONE, x -> x.week(0, n, 0, 0));
            refused("week as known at " + n, NONE, x -> x.week(0, 0, n, 0));
            refused("earned in " + n, 0, x -> x.earned(0, n, 0, true));
            refused("earned as known at " + n, 0, x -> x.earned(0, 0, n, true));
            refused("amiss " + n, NONE, x -> x.amiss(n));
            refused("look " + n, NONE, x -> x.look(n, 0));
            refused("look for " + n, NONE, x -> x.look(0, n));
            refused("count " + n, NONE, x -> x.count(n));
            refused("share of " + n, 0, x -> x.share(n));
            refused("is " + n, NONE, x -> x.is(n));
            refused("net of " + n, 0, x -> x.net(n));
            refused("differs for " + n, NONE, x -> x.differs(n, 0, 0));
            refused("differs " + n, NONE, x -> x.differs(2, n, 0));
            refused("differs, what " + n, NONE, x -> x.differs(2, 0, n));
        }
        refused("week of frame 5", NONE, x -> x.week(5, 0, 0, 0));
        refused("week, what 8", NONE, x -> x.week(0, 0, 0, 8));
        refused("earned by knitter 3", 0, x -> x.earned(3, 0, 0, true));
        refused("differs for a house", NONE, x -> x.differs(0, 0, 0));
    }

    private static void numbers() {
        int[][] wrong = {{0, 1001}, {0, -1}, {1, 101}, {1, -1}, {2, 1001}, {2, -1}, {10, 201}, {10, -1}, {12, 201}, {13, 1}, {9, 1}, {3, 1},
            {-1, 1}, {MOST, 1}, {LEAST, 1}, {0, MOST}, {1, LEAST}};
        for (int[] w : wrong) refused("number " + w[0] + " is " + w[1], 0, x -> of(x.number(w[0], w[1])));
    }

    private static void books() {
        for (int m : new int[] {0, 1, 3, -1, MOST, LEAST}) refused("tells " + m, 0, x -> of(x.tells(m, 0, 2, 9)));
        for (int w : new int[] {2, -1, 519, MOST, LEAST}) refused("tells for week " + w, 0, x -> of(x.tells(2, w, 2, 9)));
        for (int s : new int[] {10, -1, MOST, LEAST}) refused("tells of shape " + s, 0, x -> of(x.tells(2, 0, s, 9)));
        for (int n : new int[] {10001, -1, MOST, LEAST}) refused("tells dozens " + n, 0, x -> of(x.tells(2, 0, 2, n)));
    }

    private static void orders() {
        for (int m : new int[] {3, -1, MOST, LEAST}) {
            refused("spread by " + m, NO_GAIN, x -> x.spread(m, 3, 5, 1, 1, 70));
            refused("beside of " + m, NO_GAIN, x -> x.beside(m, 0, 0, 0));
        }
        for (int n : new int[] {10, -1, MOST, LEAST}) refused("spread of shape " + n, NO_GAIN, x -> x.spread(0, n, 5, 1, 1, 70));
        for (int n : new int[] {61, -1, MOST, LEAST}) refused("spread of dozens " + n, NO_GAIN, x -> x.spread(0, 3, n, 1, 1, 70));
        for (int n : new int[] {41, -1, MOST, LEAST}) refused("spread with narrowings " + n, NO_GAIN, x -> x.spread(0, 3, 5, n, 1, 70));
        for (int n : new int[] {100, -1, MOST, LEAST}) refused("spread with yarn " + n, NO_GAIN, x -> x.spread(0, 3, 5, 1, n, 70));
        for (int n : new int[] {100001, -1, MOST, LEAST}) refused("spread at " + n, NO_GAIN, x -> x.spread(0, 3, 5, 1, 1, n));
        for (int n : new int[] {-1, 41, MOST, LEAST}) refused("judge of " + n, NO_GAIN, x -> x.judge(n));
        for (int l : new int[] {2, -1, MOST, LEAST}) refused("beside by list " + l, NO_GAIN, x -> x.beside(0, l, 0, 0));
        for (int w : new int[] {-1, 2, MOST, LEAST}) {
            refused("beside from " + w, NO_GAIN, x -> x.beside(0, 0, w, 1));
            refused("beside to " + w, NO_GAIN, x -> x.beside(0, 0, 0, w));
        }
        refused("beside from behind to", NO_GAIN, x -> x.beside(0, 0, 1, 0));
    }

    private static void lots() {
        for (int n : new int[] {-1, 256, MOST, LEAST}) refused("lot of " + n, NONE, x -> x.lot(n));
        for (int l : new int[] {2, -1, MOST, LEAST}) refused("told of " + l, 0, x -> of(x.told(l, 2)));
        for (int n : new int[] {3, -1, MOST, LEAST}) refused("told as " + n, 0, x -> of(x.told(0, n)));
    }

    private static void debts() {
        for (int n : new int[] {0, -1, 1000001, MOST, LEAST}) refused("owes " + n, 0, x -> of(x.owes(0, 1, n)));
        for (int a : new int[] {-1, 1, 3, 5, 9, 17, 18, MOST, LEAST}) {
            refused(a + " owes 1", 0, x -> of(x.owes(a, 1, 5)));
            if (a != 1) refused("1 owes " + a, 0, x -> of(x.owes(1, a, 5)));
        }
        refused("nothing to clear", 0, x -> x.clear(), x -> of(x.clear()));
        refused("nothing to clear, all even", 0, x -> {
            x.owes(6, 0, 100);
            x.clear();
        }, x -> of(x.clear()));
    }

    private static void fund() {
        for (int n : new int[] {0, -1, 1000001, MOST, LEAST}) refused("fund of " + n, NONE, x -> x.fund(n));
        for (int k : new int[] {3, -1, MOST, LEAST}) {
            refused("strike of " + k, 0, x -> of(x.strike(k, true)));
            refused("no strike of " + k, 0, x -> of(x.strike(k, false)));
        }
        refused("strikes already", 0, x -> of(x.strike(0, true)));
        refused("does not strike", 0, x -> of(x.strike(1, false)));
        refused("never ends", NONE, x -> x.number(2, 0), x -> x.lasts());
    }

    // ---- what is full, and what is empty

    private static void fullTown() {
        refused("a seventh master", NONE, x -> {
            for (int i = 0; i < 3; i++) x.master(NONE);
        }, x -> x.master(NONE));
        refused("a seventh master, a bagman", NONE, x -> {
            for (int i = 0; i < 3; i++) x.master(NONE);
        }, x -> x.master(0));
        refused("a 13th knitter", NONE, x -> {
            for (int i = 0; i < 9; i++) x.knitter(2);
        }, x -> x.knitter(2));
        refused("a 17th frame", NONE, x -> {
            for (int i = 0; i < 11; i++) x.frame(20, 0, NONE);
        }, x -> x.frame(20, 0, NONE));
        refused("a 17th frame, one's own", NONE, x -> {
            for (int i = 0; i < 11; i++) x.frame(20, 0, NONE);
        }, x -> x.frame(20, 0, 0));
        refused("thirteen that are not even", NONE, x -> {
            for (int i = 0; i < 3; i++) x.master(NONE);
            for (int i = 0; i < 9; i++) x.knitter(1);
            for (int a = 2; a < 6; a++) x.owes(a, 6 + a, a);
            x.owes(12, 17, 3);
        }, x -> x.payments());
    }

    private static void fullLists() {
        refused("an 11th list", NONE, x -> {
            x.list(TEXT.length());
            for (int i = 0; i < 7; i++) Check.list(x, "W=" + i);
            Check.feed(x, Check.bytesOf(TEXT));
        }, x -> x.list(TEXT.length()));
        refused("an 11th list that has a fault", NONE, x -> {
            x.list(TEXT.length());
            for (int i = 0; i < 7; i++) Check.list(x, "W=" + i);
            Check.feed(x, Check.bytesOf(TEXT));
        }, x -> x.list(1));
    }

    private static void fullActs() {
        for (int n : new int[] {3, 1}) {
            refused("an 11th act of " + n, NONE, x -> {
                x.list(TEXT.length());
                for (int i = 0; i < 9; i++) Check.act(x, i % 2, i % 3 + 1, "R^" + i);
                Check.feed(x, Check.bytesOf("W_1"));
            }, x -> x.act(0, 5, n));
        }
    }

    private static void fullEntries() {
        FrameRents[] twins = {told(), told()};
        for (FrameRents x : twins) {
            for (int e = 4; e < 300; e++) Check.due("entry", x.entry(e % 5, e % 2, e % 10, e % 3, e, e, e), e);
        }
        Check.due("a 301st", twins[0].entry(0, 0, 9, 9, 9, 9, 9), NONE);
        fewAnswers("a 301st entry", twins);
    }

    /** Some sixty calls where the towns were told much. */
    private static void fewAnswers(String call, FrameRents[] twins) {
        refusals++;
        for (int what = 0; what < 12; what++) Check.due(call + ": count " + what, twins[0].count(what), twins[1].count(what));
        for (int f = 0; f < 5; f++) {
            for (int what : new int[] {0, 4, 5, 7}) {
                Check.due(call + ": week of " + f + ", what " + what, twins[0].week(f, f % 2, 1, what), twins[1].week(f, f % 2, 1, what));
            }
        }
        for (int i = 0; i < 5; i++) {
            for (int what = 1; what < 4; what++) {
                Check.due(call + ": differs " + i + ", what " + what, twins[0].differs(2, i, what), twins[1].differs(2, i, what));
            }
        }
        Check.due(call + ": goes", twins[0].goes(), twins[1].goes());
    }

    private static void fullBook() {
        FrameRents[] twins = {told(), told()};
        for (FrameRents x : twins) {
            for (int i = 1; i < 200; i++) Check.due("tells", x.tells(2, i % 2, i % 10, i), true);
        }
        Check.due("a 201st", twins[0].tells(2, 0, 0, 7777), false);
        fewAnswers("a 201st told", twins);
    }

    private static void fullLots() {
        refused("a 41st lot", NONE, x -> {
            for (int l = 2; l < 40; l++) x.lot(5 * l);
        }, x -> x.lot(4));
    }

    private static void fullTape() {
        FrameRents[] twins = {Towns.townWith("W=g;R=w"), Towns.townWith("W=g;R=w")};
        StringBuilder text = new StringBuilder("W=");
        while (text.length() < 199) text.append(text.length() % 2 == 0 ? '2' : '*');
        text.append('d');
        for (FrameRents x : twins) Check.feed(x, Check.bytesOf(text.toString()));
        Check.due("more than 200", twins[0].feed(1, 2, 3, 4, 5), NONE);
        refusals++;
        for (FrameRents x : twins) {
            Check.due("200", x.count(10), 200);
            Check.due("all its bytes as they were", x.list(200), -1199);
            Check.due("empty", x.count(10), 0);
        }
        for (FrameRents x : twins) {
            for (int i = 1; i <= 9; i++) Check.due("feed", x.feed(i, i, i, i, i), 20 * i);
            Check.due("200, too", x.feed(0, 0, 0, 0, 77), 200);
        }
        Check.due("more than 200", twins[0].feed(-1, -1, -1, -1, -1), NONE);
        for (FrameRents x : twins) Check.due("the first are first", x.worth(0, 22), 1);
        for (FrameRents x : twins) Check.due("and from the start", x.feed(5, 4, 3, 2, 1), 20);
        refusals++;
    }

    /** A new object that is refused everything is as a new one. */
    private static void emptyTown() {
        List<Refused> none = List.of(x -> x.master(0), x -> x.knitter(0), x -> x.frame(20, 0, NONE), x -> of(x.hire(0, 0)), x -> of(x.back(0)),
            x -> x.list(1), x -> x.act(0, 0, 1), x -> of(x.uses(0, 0)), x -> x.listOf(0, 0), x -> x.worth(0, 0),
            x -> x.entry(0, 0, 0, 0, 0, 0, 0), x -> x.week(0, 0, 0, 0), x -> x.earned(0, 0, 0, true), x -> of(x.number(10, 0)), x -> x.amiss(0),
            x -> of(x.tells(0, 0, 0, 0)), x -> x.differs(0, 0, 0), x -> x.spread(0, 0, 0, 0, 0, 0), x -> x.share(0), x -> x.judge(0),
            x -> x.beside(0, 0, 0, 0), x -> of(x.told(0, 1)), x -> x.is(0), x -> of(x.owes(0, 1, 1)), x -> x.net(0), x -> x.payments(),
            x -> of(x.clear()), x -> x.fund(0), x -> of(x.strike(0, true)), x -> x.lasts(), x -> x.look(0, 0), x -> x.count(20), x -> x.count(40));
        int[] answers = {NONE, NONE, NONE, 0, 0, NONE, NONE, 0, NONE, 0, NONE, NONE, 0, 0, NONE, 0, NONE, -2, 0, -2, -2, 0, NONE, 0, 0, 0, 0, NONE, 0,
            NONE, NONE, NONE, NONE};
        FrameRents x = new FrameRents();
        for (int i = 0; i < answers.length; i++) {
            Check.due("call " + i + " of nothing", none.get(i).on(x), answers[i] == -2 ? NO_GAIN : answers[i]);
            refusals++;
        }
        same("calls of nothing", answers(x), answers(new FrameRents()));
    }

    // ---- "but the tape, where it is told"

    /** A FAULT empties the tape, and changes nothing else. */
    private static void faults() {
        String[] texts = {"W", "W=", "W=1;", "W=1234567", "W=1;W=2", "A=1;B=1;C=1;D=1;E=1;F=1;G=1;H=1;I=1;J=1;K=1", "W=(((((((1", "W=A;A=W", "W=1<2?3:W"};
        for (String text : texts) {
            FrameRents asked = told();
            Check.due("list " + text, Check.list(asked, text) < NONE, true);
            same("list " + text, answers(asked), answers(told()));
            refusals++;
        }
        for (String text : new String[] {"W", "A_1", "W=1", "R_", "R_1234567", "R_(((((((1", "R_1;"}) {
            FrameRents asked = told();
            Check.due("act " + text, Check.act(asked, 0, 1, text) < NONE, true);
            same("act " + text, answers(asked), answers(told()));
            refusals++;
        }
    }

    /** A row that is none empties the tape, and changes nothing else. */
    private static void rows() {
        for (int[] row : new int[][] {{9}, {11}, {25}, {255}, {5, 5}, {}, {10, 0}}) {
            FrameRents asked = told();
            Check.feed(asked, row);
            Check.due("judge of " + row.length, asked.judge(row.length), NO_GAIN);
            same("judge of " + row.length, answers(asked), answers(told()));
            refusals++;
        }
        FrameRents asked = told();
        Check.feed(asked, 10);
        Check.due("a good row", asked.judge(1) != NO_GAIN, true);
        same("a good row", answers(asked), answers(told()));
    }
}
