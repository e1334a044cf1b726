/** Masters, knitters, frames, entries, what a week earns, yarn and books (==== 1. and 3.): each sentence that names an edge, at it and just beyond it. */
public final class WorkEdgesTest {
    private static final int NONE = FrameRents.NONE;

    public static void main(String[] args) {
        newObject();
        weeks();
        sixMasters();
        bagmanOfAHouse();
        twelveKnitters();
        sixteenFrames();
        framesOfSuch();
        hiredFromOn();
        tillGivenBack();
        hiredOnce();
        ownAlwaysHired();
        threeHundredEntries();
        entryRanges();
        upToNow();
        laterIsInstead();
        knownAt();
        withoutEntry();
        atTheEndOfTheWeek();
        nobodyHasIt();
        itsFrames();
        owners();
        idleThatOneTheFirst();
        idleOneBehindTheOther();
        idleAsLongAsHired();
        idleByWhatIsKnown();
        listOfItsMaster();
        withoutAList();
        zeroAtLast();
        mostAtLast();
        ownHasNoRent();
        netAndTruck();
        overRoundedDown();
        earnedByFrames();
        earnedAtTheEnd();
        parishPays();
        numbers();
        numbersRefusedStay();
        amissMoreHose();
        amissMoreThanWaste();
        amissRoundedUp();
        bookRanges();
        bookLatestCounts();
        bookOfTwoHundred();
        differsInOrder();
        differsAsKnownNow();
        differsOfHisFrames();
        differsUpToNow();
        weekForOthers();
        earnedForOthers();
        lookForOthers();
        countForOthers();
        Check.end();
    }

    private static void due(String call, long got, long want) {
        Check.due(call, got, want);
    }

    private static void due(String call, boolean got, boolean want) {
        Check.due(call, got, want);
    }

    private static long[] weekOf(FrameRents x, int f, int week, int t) {
        long[] all = new long[8];
        for (int what = 0; what < 8; what++) all[what] = x.week(f, week, t, what);
        return all;
    }

    private static void dueWeek(String what, FrameRents x, int f, int week, int t, long... want) {
        long[] got = weekOf(x, f, week, t);
        for (int i = 0; i < 8; i++) due(what + ", what " + i, got[i], want[i]);
    }

    // ---- ==== 1.

    /** "WEEK 0; no MASTERS, KNITTERS, FRAMES"; "(0 at first)" of THE FUND and SCALE; "(5 at first)" of WASTE. */
    private static void newObject() {
        FrameRents x = new FrameRents();
        for (int what = 0; what < 12; what++) due("count " + what, x.count(what), 0);
        for (int f = 0; f < 16; f++) due("frame " + f, x.count(20 + f), NONE);
        for (int l = 0; l < 10; l++) due("list " + l, x.count(40 + l), NONE);
        due("no master", x.frame(20, 0, NONE), NONE);
        due("no house", x.master(0), NONE);
        due("no list", x.listOf(0, 0), NONE);
        due("no entry", x.look(0, 0), NONE);
        due("no entry", x.amiss(0), NONE);
        due("no lot", x.is(0), NONE);
        due("no debts", x.clear(), false);
        due("no debts", x.payments(), 0);
        due("no debts", x.net(0), 0);
        due("no strikers", x.lasts(), NONE);
        due("no order", x.judge(0), -1000000000000L);
        due("no spread", x.share(0), 0);
        FrameRents y = Towns.town();
        y.strike(0, true);
        due("nothing a head at first", y.lasts(), NONE);
        due("the parish pays nothing at first", y.earned(0, 0, 0, true), 0);
        due("no list at first", y.listOf(0, 0), NONE);
        due("NONE", FrameRents.NONE, -1);
    }

    /** "WEEKS 0 to 519; NOW is one of them (0 at first)". */
    private static void weeks() {
        due("now", new FrameRents().count(0), 0);
        Towns.range("week of week()", 0, 519, NONE, () -> Towns.working("W=1"), (x, n) -> x.week(0, n, 0, 6));
        Towns.range("t of week()", 0, 519, NONE, () -> Towns.working("W=1"), (x, n) -> x.week(0, 0, n, 6));
        Towns.range("week of earned()", 0, 519, 0, () -> Towns.working("W=1"), (x, n) -> x.earned(0, n, 0, false));
        Towns.range("t of earned()", 0, 519, 0, () -> Towns.working("W=1"), (x, n) -> x.earned(0, 0, n, false));
        FrameRents x = new FrameRents();
        for (int w = 1; w <= 510; w++) due("goes", x.goes(), 0);
        due("now", x.count(0), 510);
    }

    /** "MASTERS 0 to 5"; "6 are there". */
    private static void sixMasters() {
        FrameRents x = new FrameRents();
        for (int m = 0; m < 6; m++) due("master", x.master(m % 2 == 0 ? NONE : m - 1), m);
        due("a seventh, a house", x.master(NONE), NONE);
        due("a seventh, a bagman", x.master(0), NONE);
        due("six", x.count(1), 6);
        due("the sixth is a bagman", x.tells(5, 0, 0, 1), true);
        due("there is no seventh", x.tells(6, 0, 0, 1), false);
        due("a frame of the sixth", x.frame(20, 5, NONE), 0);
        due("of a seventh", x.frame(20, 6, NONE), NONE);
    }

    /** "each a HOUSE, or a BAGMAN of a HOUSE"; "NONE: no such HOUSE". */
    private static void bagmanOfAHouse() {
        FrameRents x = new FrameRents();
        due("no house yet", x.master(0), NONE);
        due("none was made", x.count(1), 0);
        due("a house", x.master(NONE), 0);
        due("a bagman", x.master(0), 1);
        due("of a bagman", x.master(1), NONE);
        due("of itself", x.master(2), NONE);
        due("-2", x.master(-2), NONE);
        due("far", x.master(Integer.MAX_VALUE), NONE);
        due("far below", x.master(Integer.MIN_VALUE), NONE);
        due("two", x.count(1), 2);
        due("another bagman of it", x.master(0), 2);
        due("the house is none", x.tells(0, 0, 0, 1), false);
        due("the bagman is", x.tells(1, 0, 0, 1), true);
    }

    /** "KNITTERS 0 to 11, of so many HEADS (1 to 9)"; "12 are there". */
    private static void twelveKnitters() {
        Towns.range("heads", 1, 9, NONE, FrameRents::new, (x, n) -> x.knitter(n));
        FrameRents x = new FrameRents();
        for (int k = 0; k < 12; k++) {
            due("no such heads", x.knitter(k % 2 == 0 ? 0 : 10), NONE);
            due("knitter", x.knitter(k % 9 + 1), k);
        }
        due("a 13th", x.knitter(1), NONE);
        due("twelve", x.count(2), 12);
        x.number(0, 10);
        for (int k = 0; k < 12; k++) due("heads of " + k, x.earned(k, 0, 0, true), 10 * (k % 9 + 1));
        due("knitter 12", x.earned(12, 0, 0, true), 0);
        due("the twelfth strikes", x.strike(11, true), true);
        due("there is no 13th", x.strike(12, true), false);
    }

    /** "FRAMES 0 to 15"; "of a GAUGE (10 to 40)"; "16 are there". */
    private static void sixteenFrames() {
        Towns.range("gauge", 10, 40, NONE, Towns::town, (x, n) -> x.frame(n, 0, NONE));
        Towns.range("gauge of one's own", 10, 40, NONE, Towns::town, (x, n) -> x.frame(n, 0, 0));
        FrameRents x = Towns.townWith("W=g");
        x.uses(0, 0);
        for (int f = 3; f < 16; f++) {
            due("no such gauge", x.frame(f % 2 == 0 ? 9 : 41, 0, NONE), NONE);
            due("frame", x.frame(f == 3 ? 10 : f == 15 ? 40 : 20 + f, 0, f % 2 == 0 ? NONE : 0), f);
        }
        due("a 17th", x.frame(20, 0, NONE), NONE);
        due("a 17th, one's own", x.frame(20, 0, 0), NONE);
        due("sixteen", x.count(3), 16);
        due("gauge 10", x.week(3, 0, 0, 0), 10);
        due("gauge 40", x.week(15, 0, 0, 0), 40);
        due("hire the 15th", x.hire(14, 1), true);
        due("hire a 17th", x.hire(16, 1), false);
        due("count of the 16th", x.count(35), 0);
        due("count of a 17th", x.count(36), NONE);
    }

    /** "A FRAME of MASTER m (knitter NONE), or of a KNITTER's own...; NONE: no such ones". */
    private static void framesOfSuch() {
        Towns.range("master of a frame", 0, 2, NONE, Towns::town, (x, n) -> x.frame(20, n, NONE));
        Towns.range("knitter of a frame", -1, 1, NONE, Towns::town, (x, n) -> x.frame(20, 0, n));
        FrameRents x = Towns.town();
        due("nobody's yet", x.count(20), NONE);
        due("one's own", x.count(22), 1);
        due("its first knitter", x.frame(20, 0, 0), 3);
        due("has it", x.count(23), 0);
    }

    /** "HIRED by a KNITTER from a WEEK on". */
    private static void hiredFromOn() {
        Towns.range("frame to hire", 0, 1, 0, Towns::town, (x, n) -> Towns.of(x.hire(n, 0)));
        Towns.range("knitter who hires", 0, 1, 0, Towns::town, (x, n) -> Towns.of(x.hire(0, n)));
        FrameRents x = Towns.town();
        Check.goes(x, 3);
        due("hire", x.hire(0, 0), true);
        due("the week before", x.week(0, 2, 3, 6), NONE);
        due("that week", x.week(0, 3, 3, 6), 0);
        due("the next", x.week(0, 4, 3, 6), 0);
        due("the last", x.week(0, 519, 3, 6), 0);
        due("now", x.count(20), 0);
    }

    /** "till it is given back"; "false: no such one, one's own, it is not HIRED". */
    private static void tillGivenBack() {
        Towns.range("frame to give back", 0, 1, 0, () -> Towns.working("W=1"), (x, n) -> Towns.of(x.back(n)));
        FrameRents x = Towns.town();
        due("not hired", x.back(0), false);
        x.hire(0, 0);
        Check.goes(x, 3);
        due("back", x.back(0), true);
        due("it is not hired any more", x.back(0), false);
        due("now", x.count(20), NONE);
        due("the week before", x.week(0, 2, 3, 6), 0);
        due("that week", x.week(0, 3, 3, 6), NONE);
        due("the last", x.week(0, 519, 3, 6), NONE);
        due("one's own", x.back(2), false);
        due("is one's own still", x.count(22), 1);
    }

    /** "false: ..., one's own, it is HIRED". */
    private static void hiredOnce() {
        FrameRents x = Towns.town();
        due("one's own by oneself", x.hire(2, 1), false);
        due("one's own by another", x.hire(2, 0), false);
        due("it has its knitter", x.count(22), 1);
        due("hire", x.hire(0, 0), true);
        due("by the same", x.hire(0, 0), false);
        due("by another", x.hire(0, 1), false);
        due("it has its knitter", x.count(20), 0);
        Check.goes(x, 1);
        due("a week later, by another", x.hire(0, 1), false);
        due("back", x.back(0), true);
        due("by another in the same week", x.hire(0, 1), true);
        due("at that week's end", x.week(0, 1, 1, 6), 1);
        due("at the end of the one before", x.week(0, 0, 1, 6), 0);
        due("two frames of one knitter", x.hire(1, 1), true);
    }

    /** "one's own is always HIRED by its KNITTER". */
    private static void ownAlwaysHired() {
        FrameRents x = Towns.townWith("W=f");
        x.uses(0, 0);
        Check.goes(x, 3);
        x.frame(20, 0, 0);
        for (int w : new int[] {0, 2, 3, 4, 519}) due("in week " + w, x.week(3, w, 3, 6), 0);
        due("now", x.count(23), 0);
        due("and counted among its frames", x.week(3, 0, 3, 0), 1);
        due("idle in all", x.week(3, 3, 3, 5), 4);
    }

    // ---- ==== 3. entries

    /** "ENTRIES 0 to 299"; "300 are there". */
    private static void threeHundredEntries() {
        FrameRents x = Towns.town();
        for (int e = 0; e < 300; e++) due("entry", x.entry(e % 3, 0, e % 10, e % 100, 0, 0, 0), e);
        due("a 301st", x.entry(0, 0, 0, 0, 0, 0, 0), NONE);
        due("a 301st elsewhere", x.entry(1, 0, 9, 9, 9, 9, 9), NONE);
        due("300", x.count(6), 300);
        due("the last", x.look(299, 3), 99);
        due("none behind it", x.look(300, 3), NONE);
        due("amiss", x.amiss(299), 0);
        due("none behind it", x.amiss(300), NONE);
        due("the latest of frame 0", x.week(0, 0, 0, 7), 297);
        due("the latest of frame 1", x.week(1, 0, 0, 7), 298);
    }

    /** "a SHAPE (0 to 9), dozens (0 to 99), narrowings (0 to 999), ounces of yarn given and of hose taken (0 to 9999 each)". */
    private static void entryRanges() {
        Towns.range("frame", 0, 2, NONE, Towns::town, (x, n) -> x.entry(n, 0, 0, 0, 0, 0, 0));
        Towns.range("shape", 0, 9, NONE, Towns::town, (x, n) -> x.entry(0, 0, n, 0, 0, 0, 0));
        Towns.range("dozens", 0, 99, NONE, Towns::town, (x, n) -> x.entry(0, 0, 0, n, 0, 0, 0));
        Towns.range("narrowings", 0, 999, NONE, Towns::town, (x, n) -> x.entry(0, 0, 0, 0, n, 0, 0));
        Towns.range("yarn", 0, 9999, NONE, Towns::town, (x, n) -> x.entry(0, 0, 0, 0, 0, n, 0));
        Towns.range("hose", 0, 9999, NONE, Towns::town, (x, n) -> x.entry(0, 0, 0, 0, 0, 0, n));
        FrameRents x = Towns.town();
        x.entry(2, 0, 9, 99, 999, 9999, 9998);
        x.entry(1, 0, 0, 0, 0, 0, 0);
        int[] most = {2, 0, 9, 99, 999, 9999, 9998, 0};
        for (int what = 0; what < 8; what++) {
            due("the most, what " + what, x.look(0, what), most[what]);
            due("the least, what " + what, x.look(1, what), what == 0 ? 1 : 0);
        }
    }

    /** "for a WEEK up to NOW, told at NOW"; "NONE: ..., a WEEK behind NOW". */
    private static void upToNow() {
        Towns.range("week of an entry", 0, 3, NONE, WorkEdgesTest::inWeekThree, (x, n) -> x.entry(0, n, 0, 0, 0, 0, 0));
        FrameRents x = Towns.town();
        due("a week to come", x.entry(0, 1, 0, 0, 0, 0, 0), NONE);
        Check.goes(x, 1);
        due("that is come", x.entry(0, 1, 0, 0, 0, 0, 0), 0);
        due("told at", x.look(0, 7), 1);
        Check.goes(x, 4);
        due("long gone", x.entry(0, 0, 0, 0, 0, 0, 0), 1);
        due("for", x.look(1, 1), 0);
        due("told at", x.look(1, 7), 5);
    }

    private static FrameRents inWeekThree() {
        FrameRents x = Towns.working("W=100;R=7");
        Check.goes(x, 3);
        return x;
    }

    /** "A later ENTRY for a FRAME and a WEEK is instead of the earlier one." */
    private static void laterIsInstead() {
        FrameRents x = Towns.working("W=d*100;C=n+y");
        x.entry(0, 0, 1, 4, 5, 6, 6);
        x.entry(0, 0, 2, 3, 0, 0, 0);
        dueWeek("the later one", x, 0, 0, 0, 300, 0, 0, 0, 300, 0, 0, 1);
        x.entry(0, 0, 0, 0, 0, 0, 0);
        dueWeek("one of nothing, too", x, 0, 0, 0, 0, 0, 0, 0, 0, 1, 0, 2);
        x.entry(1, 0, 0, 9, 0, 0, 0);
        due("another frame's is another", x.week(0, 0, 0, 7), 2);
        Check.goes(x, 1);
        x.entry(0, 1, 0, 8, 0, 0, 0);
        due("another week's is another", x.week(0, 0, 1, 7), 2);
        due("the earlier ones can be looked at still", x.look(0, 3), 4);
    }

    /** "KNOWN at a WEEK t are ENTRIES told by then." */
    private static void knownAt() {
        FrameRents x = Towns.working("W=d*100");
        Check.goes(x, 2);
        x.entry(0, 1, 0, 5, 0, 0, 0);
        Check.goes(x, 2);
        x.entry(0, 1, 0, 7, 0, 0, 0);
        long[] wages = {0, 0, 500, 500, 700, 700};
        int[] entries = {NONE, NONE, 0, 0, 1, 1};
        for (int t = 0; t < wages.length; t++) {
            due("W as known at " + t, x.week(0, 1, t, 0), wages[t]);
            due("the entry as known at " + t, x.week(0, 1, t, 7), entries[t]);
            due("earned as known at " + t, x.earned(0, 1, t, false), wages[t]);
        }
        due("as known at 519", x.week(0, 1, 519, 7), 1);
        x.entry(0, 1, 0, 9, 0, 0, 0);
        due("of two told in one week the later", x.week(0, 1, 4, 0), 900);
        due("not known the week before", x.week(0, 1, 3, 0), 500);
    }

    /** "from its ENTRY (without one: all 0)". */
    private static void withoutEntry() {
        FrameRents x = Towns.working("W=d+s+n+y;C=g");
        dueWeek("without an entry", x, 0, 0, 0, 0, 0, 20, 0, -20, 1, 0, NONE);
        x.entry(0, 0, 9, 99, 999, 9999, 9999);
        dueWeek("with one", x, 0, 0, 0, 9 + 99 + 999 + 9999, 0, 20, 0, 11086, 0, 0, 0);
        Check.goes(x, 1);
        dueWeek("the next week without", x, 0, 1, 1, 0, 0, 20, 0, -20, 1, 0, NONE);
    }

    /** "the KNITTER who had HIRED it at the end of that WEEK". */
    private static void atTheEndOfTheWeek() {
        FrameRents x = Towns.townWith("W=h");
        x.uses(0, 0);
        x.hire(0, 0);
        x.back(0);
        x.hire(0, 1);
        due("the last of three", x.week(0, 0, 0, 6), 1);
        due("by its heads", x.week(0, 0, 0, 0), 5);
        Check.goes(x, 1);
        x.back(0);
        due("given back in the week", x.week(0, 1, 1, 6), NONE);
        due("still had at the end of the one before", x.week(0, 0, 1, 6), 1);
        x.hire(0, 0);
        due("hired after that", x.week(0, 1, 1, 6), 0);
        x.back(0);
        Check.goes(x, 1);
        due("hired and given back in a week", x.week(0, 1, 2, 6), NONE);
        due("by what was, whatever t", x.week(0, 0, 0, 6), 1);
    }

    /** "(none: nothing is earned or due)". */
    private static void nobodyHasIt() {
        FrameRents x = Towns.townWith("W=100;R=50;C=25;T=10");
        x.uses(0, 0);
        Check.act(x, 0, 519, "W^30");
        x.entry(0, 0, 1, 5, 0, 0, 0);
        dueWeek("nobody", x, 0, 0, 0, 0, 0, 0, 0, 0, 0, NONE, 0);
        x.hire(0, 0);
        dueWeek("somebody", x, 0, 0, 0, 100, 50, 25, 10, 25, 0, 0, 0);
        Check.goes(x, 1);
        x.back(0);
        dueWeek("nobody any more", x, 0, 1, 1, 0, 0, 0, 0, 0, 0, NONE, NONE);
        dueWeek("somebody then", x, 0, 0, 1, 100, 50, 25, 10, 25, 0, 0, 0);
        due("earned by the one who had it", x.earned(0, 0, 1, false), 25);
        due("nothing now", x.earned(0, 1, 1, false), 0);
    }

    /** "its FRAMES (HIRED at the end of that WEEK)". */
    private static void itsFrames() {
        FrameRents x = Towns.townWith("W=f");
        for (int m = 0; m < 3; m++) x.uses(m, 0);
        x.hire(0, 1);
        x.hire(1, 1);
        x.back(1);
        due("two, one of them its own", x.week(0, 0, 0, 0), 2);
        Check.goes(x, 1);
        x.hire(1, 1);
        due("three", x.week(0, 1, 1, 0), 3);
        due("for its own, too", x.week(2, 1, 1, 0), 3);
        Check.goes(x, 1);
        x.back(0);
        x.hire(0, 0);
        due("one of another's", x.week(0, 2, 2, 0), 1);
        due("two left", x.week(1, 2, 2, 0), 2);
        due("two at first, still", x.week(0, 0, 2, 0), 2);
        due("three then, still", x.week(0, 1, 2, 0), 3);
    }

    /** "o the owner (0 a HOUSE, 1 a BAGMAN, 2 the KNITTER)". */
    private static void owners() {
        FrameRents x = Towns.working("W=o+10");
        x.frame(20, 2, 0);
        due("a house's", x.week(0, 0, 0, 0), 10);
        due("a bagman's", x.week(1, 0, 0, 0), 11);
        due("one's own, for a house", x.week(2, 0, 0, 0), 12);
        due("one's own, for a bagman", x.week(3, 0, 0, 0), 12);
    }

    // ---- idle weeks

    /** "i: how many WEEKS, that one the first, and back, ... it has no dozens (0 if it has dozens)". */
    private static void idleThatOneTheFirst() {
        FrameRents x = Towns.working("W=i");
        due("week 0", x.week(0, 0, 0, 5), 1);
        x.entry(0, 0, 0, 1, 0, 0, 0);
        due("one dozen", x.week(0, 0, 0, 5), 0);
        due("as a fact", x.week(0, 0, 0, 0), 0);
        Check.goes(x, 1);
        due("the week behind", x.week(0, 1, 1, 5), 1);
        due("as a fact", x.week(0, 1, 1, 0), 1);
        x.entry(0, 1, 0, 99, 0, 0, 0);
        due("99 dozens", x.week(0, 1, 1, 5), 0);
        x.entry(0, 1, 9, 0, 999, 9999, 9999);
        due("all but dozens", x.week(0, 1, 1, 5), 1);
    }

    /** "one behind the other". */
    private static void idleOneBehindTheOther() {
        FrameRents x = Towns.working("W=i");
        Check.goes(x, 6);
        due("all seven", x.week(0, 6, 6, 5), 7);
        x.entry(0, 3, 0, 1, 0, 0, 0);
        int[] idle = {1, 2, 3, 0, 1, 2, 3};
        for (int w = 0; w < idle.length; w++) {
            due("i of week " + w, x.week(0, w, 6, 5), idle[w]);
            due("as a fact", x.week(0, w, 6, 0), idle[w]);
        }
        due("weeks to come go on", x.week(0, 9, 6, 5), 6);
        x.entry(0, 3, 0, 0, 0, 0, 0);
        due("all seven again", x.week(0, 6, 6, 5), 7);
        due("another frame's are its own", x.week(1, 6, 6, 5), 7);
    }

    /** "as long as that KNITTER had it HIRED". */
    private static void idleAsLongAsHired() {
        FrameRents x = Towns.townWith("W=i");
        x.uses(0, 0);
        Check.goes(x, 2);
        x.hire(0, 0);
        Check.goes(x, 2);
        due("from the week of hiring", x.week(0, 4, 4, 5), 3);
        x.back(0);
        Check.goes(x, 1);
        x.hire(0, 0);
        Check.goes(x, 1);
        due("not beyond a week without", x.week(0, 6, 6, 5), 2);
        due("nobody's", x.week(0, 4, 6, 5), 0);
        due("nobody's yet", x.week(0, 1, 6, 5), 0);
        x.back(0);
        x.hire(0, 1);
        due("another knitter's first", x.week(0, 6, 6, 5), 1);
        due("as a fact", x.week(0, 6, 6, 0), 1);
        Check.goes(x, 1);
        x.back(0);
        x.hire(0, 1);
        due("back and hired again in a week", x.week(0, 7, 7, 5), 2);
    }

    /** "by what is KNOWN". */
    private static void idleByWhatIsKnown() {
        FrameRents x = Towns.working("W=i");
        Check.goes(x, 3);
        x.entry(0, 1, 0, 5, 0, 0, 0);
        due("not known at 2", x.week(0, 3, 2, 5), 4);
        due("known at 3", x.week(0, 3, 3, 5), 2);
        due("as a fact at 2", x.week(0, 3, 2, 0), 4);
        due("as a fact at 3", x.week(0, 3, 3, 0), 2);
        Check.goes(x, 1);
        x.entry(0, 1, 0, 0, 0, 0, 0);
        due("dozens that were told away", x.week(0, 3, 4, 5), 4);
        due("known at 3 still", x.week(0, 3, 3, 5), 2);
    }

    // ---- worth of a week

    /** "by the LIST that its MASTER has in that WEEK (the owner, or for whom the KNITTER works on its own)". */
    private static void listOfItsMaster() {
        FrameRents x = Towns.townWith("W=1", "W=2", "W=3");
        for (int m = 0; m < 3; m++) x.uses(m, m);
        x.hire(0, 0);
        x.hire(1, 0);
        due("house 0's", x.week(0, 0, 0, 0), 1);
        due("the bagman's own list, not his house's", x.week(1, 0, 0, 0), 3);
        due("for whom the knitter works", x.week(2, 0, 0, 0), 2);
        Check.goes(x, 1);
        x.uses(0, 1);
        due("as now told", x.week(0, 1, 0, 0), 2);
        due("in that week", x.week(0, 0, 1, 0), 1);
    }

    /** "without one all 0; bounded by ACTS (these 0, too)". */
    private static void withoutAList() {
        FrameRents x = Towns.townWith("W=100");
        x.hire(0, 0);
        x.entry(0, 0, 1, 5, 0, 0, 0);
        dueWeek("without a list", x, 0, 0, 0, 0, 0, 0, 0, 0, 0, 0, 0);
        Check.act(x, 0, 0, "W^90+d");
        Check.act(x, 0, 0, "R^W+7");
        Check.act(x, 0, 0, "C_5");
        Check.act(x, 0, 0, "T^9");
        dueWeek("acts bound the 0, too", x, 0, 0, 0, 95, 7, 0, 9, 88, 0, 0, 0);
        Check.act(x, 0, 0, "W_0-5");
        due("below 0 it is 0", x.week(0, 0, 0, 0), 0);
    }

    /** "W, R, C, T below 0 are 0 at last". */
    private static void zeroAtLast() {
        for (int n = 0; n < 3; n++) {
            FrameRents x = Towns.working("W=" + n + "-1;R=" + n + "-1;C=" + n + "-1;T=" + n + "-1");
            for (int what = 0; what < 3; what++) due(n - 1 + ", what " + what, x.week(0, 0, 0, what), Math.max(0, n - 1));
            due(n - 1 + ", net", x.week(0, 0, 0, 4), -Math.max(0, n - 1));
            due(n - 1 + ", truck", x.week(0, 0, 0, 3), 0);
        }
        FrameRents x = Towns.working("R=0-9;W=20;T=0-3");
        due("no less than nothing", x.week(0, 0, 0, 1), 0);
        due("it adds nothing to net", x.week(0, 0, 0, 4), 20);
        due("truck", x.week(0, 0, 0, 3), 0);
        Check.act(x, 0, 0, "R_0-4");
        due("an act's bound below 0", x.week(0, 0, 0, 1), 0);
        Check.act(x, 0, 0, "R^0-2");
        due("and another", x.week(0, 0, 0, 1), 0);
    }

    /** "above 1000000000 that" at last. */
    private static void mostAtLast() {
        for (String change : new String[] {"-1", "+0", "+1"}) {
            FrameRents x = Towns.working("A=1000*1000*1000;W=A" + change + ";R=A-1;C=A;T=A*9");
            due("W of 1000000000" + change, x.week(0, 0, 0, 0), change.equals("-1") ? 999999999 : 1000000000);
            due("R just below", x.week(0, 0, 0, 1), 999999999);
            due("C", x.week(0, 0, 0, 2), 1000000000);
        }
        FrameRents x = Towns.working("W=1000*1000*2000;T=1000*1000*2000");
        due("truck of the most", x.week(0, 0, 0, 3), 1000000000);
        due("net of the most", x.week(0, 0, 0, 4), 1000000000);
        Check.act(x, 0, 0, "W_1000*1000*1500");
        due("an act's bound above the most", x.week(0, 0, 0, 0), 1000000000);
        Check.act(x, 0, 0, "W^1000*1000*1700");
        due("and another", x.week(0, 0, 0, 0), 1000000000);
        FrameRents y = Towns.working("R=1000*1000*2000;C=1000*1000*2000");
        due("the least net", y.week(0, 0, 0, 4), -2000000000);
    }

    /** "On a KNITTER's own FRAME R is 0." */
    private static void ownHasNoRent() {
        FrameRents x = Towns.working("W=100;R=30;C=5;T=95");
        dueWeek("hired", x, 0, 0, 0, 100, 30, 5, 65, 65, 1, 0, NONE);
        dueWeek("one's own", x, 2, 0, 0, 100, 0, 5, 95, 95, 1, 1, NONE);
        Check.act(x, 0, 0, "R^50");
        due("whatever the act", x.week(2, 0, 0, 1), 0);
        due("hired", x.week(0, 0, 0, 1), 50);
    }

    /** "NET: W less R, less C. TRUCK: T, but no more than NET, not below 0." */
    private static void netAndTruck() {
        for (int t = 69; t <= 71; t++) {
            FrameRents x = Towns.working("W=100;R=20;C=10;T=" + t);
            due("net", x.week(0, 0, 0, 4), 70);
            due("truck of T " + t, x.week(0, 0, 0, 3), Math.min(t, 70));
        }
        for (int w = 29; w <= 31; w++) {
            FrameRents x = Towns.working("W=" + w + ";R=20;C=10;T=5");
            due("net of W " + w, x.week(0, 0, 0, 4), w - 30);
            due("truck of W " + w, x.week(0, 0, 0, 3), Math.max(0, w - 30));
        }
        FrameRents x = Towns.working("W=100;T=0-5");
        due("T below 0", x.week(0, 0, 0, 3), 0);
    }

    /** "its worth is TRUCK times 100 through (100 and OVER), rounded down"; OVER 0 to 200. */
    private static void overRoundedDown() {
        int[] overs = {0, 1, 25, 99, 100, 199, 200};
        for (int truck = 98; truck <= 101; truck++) {
            FrameRents x = Towns.working("W=1000;T=" + truck);
            for (int over : overs) {
                due("over " + over, x.number(10, over), true);
                due("earned with truck " + truck + " and over " + over, x.earned(0, 0, 0, false),
                    1000 - truck + truck * 100 / (100 + over) + 1000);
                x.number(12, 0);
            }
        }
        FrameRents x = Towns.working("W=1000*1000*1000;T=W");
        x.number(10, 200);
        x.number(12, 200);
        due("the most", x.earned(0, 0, 0, false), 2 * 333333333L);
    }

    /** "NETS of FRAMES that they had HIRED..., each less TRUCK and with what TRUCK is worth": each is rounded by itself. */
    private static void earnedByFrames() {
        FrameRents x = Towns.working("W=10;T=5");
        x.frame(20, 0, NONE);
        x.hire(3, 0);
        due("three frames", x.earned(0, 0, 0, false), 30);
        x.number(10, 200);
        due("5 is worth 1, twice", x.earned(0, 0, 0, false), 6 + 10 + 6);
        x.number(12, 100);
        due("5 is worth 2", x.earned(0, 0, 0, false), 6 + 7 + 6);
        due("one's own: another master", x.earned(1, 0, 0, false), 10);
        FrameRents y = Towns.working("W=10;C=o=1?30:0;T=5");
        due("one frame below 0", y.earned(0, 0, 0, false), -10);
    }

    /** "FRAMES that they had HIRED at its end". */
    private static void earnedAtTheEnd() {
        FrameRents x = Towns.working("W=10");
        Check.goes(x, 1);
        x.back(0);
        x.hire(0, 1);
        due("all of the week to the one at its end", x.earned(1, 1, 1, false), 20);
        due("the other", x.earned(0, 1, 1, false), 10);
        due("the week before", x.earned(0, 0, 1, false), 20);
        due("the week before", x.earned(1, 0, 1, false), 10);
        x.back(0);
        due("nobody's", x.earned(1, 1, 1, false), 10);
    }

    /** "THE PARISH pays what EARNED is less than SCALE (pence a HEAD, 0 to 1000...) times HEADS, if it is." */
    private static void parishPays() {
        for (int w = 29; w <= 31; w++) {
            FrameRents x = Towns.working("W=o=0?" + w + ":0");
            x.number(0, 10);
            due("earned " + w, x.earned(0, 0, 0, true), Math.max(0, 30 - w));
        }
        FrameRents x = Towns.working("C=7");
        due("scale 0, earned below 0", x.earned(0, 0, 0, true), 14);
        x.number(0, 1000);
        due("scale 1000", x.earned(0, 0, 0, true), 3014);
        due("of five heads", x.earned(1, 0, 0, true), 5007);
        x.number(0, 0);
        due("scale 0 again", x.earned(1, 0, 0, true), 7);
    }

    /** "What 0 SCALE of THE PARISH, 1 WASTE, 2 SCALE of strikes, 10 + m OVER of MASTER m, is n: true; false: no such ones." */
    private static void numbers() {
        Towns.range("scale of the parish", 0, 1000, 0, Towns::town, (x, n) -> Towns.of(x.number(0, n)));
        Towns.range("waste", 0, 100, 0, Towns::town, (x, n) -> Towns.of(x.number(1, n)));
        Towns.range("scale of strikes", 0, 1000, 0, Towns::town, (x, n) -> Towns.of(x.number(2, n)));
        Towns.range("over of 0", 0, 200, 0, Towns::town, (x, n) -> Towns.of(x.number(10, n)));
        Towns.range("over of 2", 0, 200, 0, Towns::town, (x, n) -> Towns.of(x.number(12, n)));
        FrameRents six = Towns.eighteen();
        due("over of the sixth", six.number(15, 1), true);
        due("of a seventh", six.number(16, 1), false);
        FrameRents x = Towns.town();
        for (int what = 0; what < 16; what++) due("what " + what, x.number(what, 1), what < 3 || what >= 10 && what <= 12);
        for (int what : new int[] {-1, 16, 20, Integer.MAX_VALUE, Integer.MIN_VALUE}) due("what " + what, x.number(what, 1), false);
    }

    /** "A call that is refused (NONE, false) changes nothing": the numbers stay. */
    private static void numbersRefusedStay() {
        FrameRents x = Towns.working("W=o=0?1000:0;T=100");
        x.number(0, 600);
        x.number(1, 10);
        x.number(2, 40);
        x.number(10, 100);
        x.entry(0, 0, 0, 1, 0, 100, 90);
        x.fund(600);
        x.strike(0, true);
        int[][] wrong = {{0, 1001}, {0, -1}, {1, 101}, {1, -1}, {2, 1001}, {2, -1}, {10, 201}, {10, -1}, {13, 0}, {9, 0}, {3, 0}, {-1, 0}};
        for (int[] w : wrong) {
            due("number " + w[0] + " " + w[1], x.number(w[0], w[1]), false);
            due("earned", x.earned(0, 0, 0, false), 950);
            due("the parish", x.earned(0, 0, 0, true), 850);
            due("amiss", x.amiss(0), 0);
            due("lasts", x.lasts(), 5);
        }
        x.number(1, 9);
        due("amiss by less waste", x.amiss(0), 1);
    }

    // ---- yarn

    /** "YARN of an ENTRY is AMISS if hose is more than yarn". */
    private static void amissMoreHose() {
        FrameRents x = Towns.town();
        x.number(1, 100);
        int[][] yarnHose = {{0, 0}, {0, 1}, {1, 1}, {1, 2}, {100, 99}, {100, 100}, {100, 101}, {9999, 9999}, {9998, 9999}, {9999, 0}};
        int[] due = {0, 1, 0, 1, 0, 0, 1, 0, 1, 0};
        for (int e = 0; e < due.length; e++) {
            x.entry(0, 0, 0, 0, 0, yarnHose[e][0], yarnHose[e][1]);
            due("yarn " + yarnHose[e][0] + ", hose " + yarnHose[e][1], x.amiss(e), due[e]);
        }
        Towns.range("entry", 0, 0, NONE, WorkEdgesTest::withEntry, (y, n) -> y.amiss(n));
    }

    private static FrameRents withEntry() {
        FrameRents x = Towns.town();
        x.entry(0, 0, 0, 0, 0, 0, 0);
        return x;
    }

    /** "or yarn less hose is more than WASTE hundredths (0 to 100; 5 at first) of yarn". */
    private static void amissMoreThanWaste() {
        FrameRents x = Towns.town();
        for (int hose = 94; hose <= 96; hose++) {
            int e = x.entry(0, 0, 0, 0, 0, 100, hose);
            due("at first, hose " + hose, x.amiss(e), hose < 95 ? 1 : 0);
        }
        for (int waste : new int[] {0, 4, 5, 6, 100}) {
            x.number(1, waste);
            for (int e = 0; e < 3; e++) due("waste " + waste + ", hose " + (94 + e), x.amiss(e), 6 - e > waste ? 1 : 0);
        }
        x.number(1, 0);
        int even = x.entry(0, 0, 0, 0, 0, 100, 100);
        due("waste 0, no waste", x.amiss(even), 0);
        int all = x.entry(0, 0, 0, 0, 0, 9999, 0);
        x.number(1, 100);
        due("waste 100, all is wasted", x.amiss(all), 0);
        x.number(1, 99);
        due("waste 99", x.amiss(all), 1);
        x.number(1, 5);
        x.entry(0, 0, 0, 0, 0, 100, 50);
        due("an entry that another one is instead of is amiss as it was told", x.amiss(0), 1);
    }

    /** "of yarn, rounded up". */
    private static void amissRoundedUp() {
        // yarn, waste, how much may be wasted
        int[][] cases = {{1, 1, 1}, {1, 0, 0}, {99, 1, 1}, {100, 1, 1}, {101, 1, 2}, {199, 1, 2}, {200, 1, 2}, {201, 1, 3}, {19, 5, 1}, {20, 5, 1},
            {21, 5, 2}, {33, 3, 1}, {34, 3, 2}, {9999, 99, 9900}, {9999, 1, 100}, {9901, 1, 100}, {9900, 1, 99}, {51, 99, 51}};
        for (int[] c : cases) {
            FrameRents x = Towns.town();
            x.number(1, c[1]);
            x.entry(0, 0, 0, 0, 0, c[0], c[0] - c[2]);
            due("yarn " + c[0] + ", waste " + c[1] + ": " + c[2], x.amiss(0), 0);
            if (c[2] == c[0]) continue;
            x.entry(0, 0, 0, 0, 0, c[0], c[0] - c[2] - 1);
            due("yarn " + c[0] + ", waste " + c[1] + ": one more", x.amiss(1), 1);
        }
    }

    // ---- a bagman's book

    /** "BAGMAN m tells dozens (0 to 10000) of a SHAPE for a WEEK (up to NOW): true; false: no such ones, a HOUSE". */
    private static void bookRanges() {
        Towns.range("master who tells", 2, 2, 0, Towns::town, (x, n) -> Towns.of(x.tells(n, 0, 0, 1)));
        Towns.range("week that is told", 0, 3, 0, WorkEdgesTest::inWeekThree, (x, n) -> Towns.of(x.tells(2, n, 0, 1)));
        Towns.range("shape that is told", 0, 9, 0, Towns::town, (x, n) -> Towns.of(x.tells(2, 0, n, 1)));
        Towns.range("dozens that are told", 0, 10000, 0, Towns::town, (x, n) -> Towns.of(x.tells(2, 0, 0, n)));
        FrameRents x = Towns.town();
        due("a house", x.tells(0, 0, 0, 1), false);
        due("a house", x.tells(1, 0, 0, 1), false);
        due("a week to come", x.tells(2, 1, 0, 1), false);
        due("10001", x.tells(2, 0, 0, 10001), false);
        due("nothing told", x.count(11), 0);
        due("nothing differs", x.differs(2, 0, 0), NONE);
        due("10000", x.tells(2, 0, 9, 10000), true);
        due("10000", x.differs(2, 0, 2), 10000);
        due("one told", x.count(11), 1);
    }

    /** "(the latest counts...)". */
    private static void bookLatestCounts() {
        FrameRents x = Towns.town();
        x.master(1);
        x.entry(1, 0, 4, 5, 0, 0, 0);
        x.tells(2, 0, 4, 9);
        due("told", x.differs(2, 0, 2), 9);
        x.tells(2, 0, 4, 3);
        due("told again", x.differs(2, 0, 2), 3);
        x.tells(2, 0, 4, 5);
        due("now as it is", x.differs(2, 0, 2), NONE);
        x.tells(2, 0, 4, 0);
        due("nothing told at last", x.differs(2, 0, 2), 0);
        due("five by entries", x.differs(2, 0, 3), 5);
        x.tells(3, 0, 4, 7);
        due("another bagman's is his own", x.differs(2, 0, 2), 0);
        due("his", x.differs(3, 0, 2), 7);
        x.tells(2, 0, 5, 6);
        due("another shape's is another", x.differs(2, 0, 2), 0);
        Check.goes(x, 1);
        x.tells(2, 1, 4, 8);
        due("another week's is another", x.differs(2, 0, 2), 0);
        due("seven are told in all", x.count(11), 7);
        FrameRents y = Towns.town();
        Check.goes(y, 2);
        y.tells(2, 1, 0, 5);
        due("only for its week", y.differs(2, 0, 0), 1);
        due("only for its week", y.differs(2, 1, 0), NONE);
    }

    /** "200 at most are told"; "200 were told". */
    private static void bookOfTwoHundred() {
        FrameRents x = Towns.town();
        for (int i = 0; i < 199; i++) x.tells(2, 0, i % 10, i);
        due("a refused one is not told", x.tells(2, 0, 10, 1), false);
        due("199", x.count(11), 199);
        due("the 200th", x.tells(2, 0, 9, 777), true);
        due("a 201st", x.tells(2, 0, 9, 1), false);
        due("nor for what was told", x.tells(2, 0, 0, 190), false);
        due("200", x.count(11), 200);
        due("what was told counts", x.differs(2, 9, 2), 777);
        due("what was told counts", x.differs(2, 0, 2), 190);
    }

    /** "DIFFERS: by WEEKS, then SHAPES, where dozens ... are not those told (nothing told: 0)". */
    private static void differsInOrder() {
        FrameRents x = Towns.town();
        Check.goes(x, 2);
        x.tells(2, 2, 0, 1);
        x.tells(2, 0, 9, 2);
        x.tells(2, 0, 0, 3);
        x.entry(1, 1, 5, 4, 0, 0, 0);
        x.tells(2, 1, 6, 0);
        int[][] all = {{0, 0, 3, 0}, {0, 9, 2, 0}, {1, 5, 0, 4}, {2, 0, 1, 0}};
        for (int i = 0; i < all.length; i++) {
            for (int what = 0; what < 4; what++) due("differs " + i + ", what " + what, x.differs(2, i, what), all[i][what]);
        }
        due("differs 4", x.differs(2, 4, 0), NONE);
        due("differs -1", x.differs(2, -1, 0), NONE);
        due("what 4", x.differs(2, 0, 4), NONE);
        due("what -1", x.differs(2, 0, -1), NONE);
        due("far", x.differs(2, Integer.MAX_VALUE, 0), NONE);
        due("far below", x.differs(2, Integer.MIN_VALUE, 0), NONE);
        due("a house", x.differs(0, 0, 0), NONE);
        due("no such one", x.differs(3, 0, 0), NONE);
        due("-1", x.differs(-1, 0, 0), NONE);
        x.tells(2, 1, 5, 4);
        due("as told: it does not differ", x.differs(2, 2, 0), 2);
        x.tells(2, 1, 5, 3);
        due("one less", x.differs(2, 2, 2), 3);
    }

    /** "(by ENTRIES as KNOWN now)". */
    private static void differsAsKnownNow() {
        FrameRents x = Towns.town();
        x.entry(1, 0, 4, 5, 0, 0, 0);
        Check.goes(x, 1);
        x.entry(1, 0, 6, 2, 0, 0, 0);
        due("the later entry is instead of the earlier", x.differs(2, 0, 1), 6);
        due("its dozens", x.differs(2, 0, 3), 2);
        due("no other", x.differs(2, 1, 0), NONE);
        x.entry(1, 0, 6, 0, 0, 0, 0);
        due("none any more", x.differs(2, 0, 0), NONE);
    }

    /** "dozens of that SHAPE on FRAMES whose MASTER he is". */
    private static void differsOfHisFrames() {
        FrameRents x = Towns.town();
        x.frame(20, 2, NONE);
        x.frame(20, 2, 0);
        x.entry(0, 0, 1, 99, 0, 0, 0);
        x.entry(2, 0, 1, 99, 0, 0, 0);
        due("his house's are not his", x.differs(2, 0, 0), NONE);
        x.entry(1, 0, 1, 1, 0, 0, 0);
        x.entry(3, 0, 1, 2, 0, 0, 0);
        due("two frames together, hired or not", x.differs(2, 0, 3), 3);
        x.entry(4, 0, 1, 4, 0, 0, 0);
        due("and one on which a knitter works for him", x.differs(2, 0, 3), 7);
        x.entry(3, 0, 2, 2, 0, 0, 0);
        due("shape 1", x.differs(2, 0, 3), 5);
        due("shape 2", x.differs(2, 1, 3), 2);
        FrameRents y = new FrameRents();
        y.master(NONE);
        y.master(0);
        y.frame(20, 1, NONE);
        y.entry(0, 0, 3, 6, 0, 0, 0);
        due("frame 0 may be his, too", y.differs(1, 0, 3), 6);
    }

    /** "WEEKS up to NOW". */
    private static void differsUpToNow() {
        FrameRents x = Towns.town();
        x.tells(2, 0, 0, 1);
        Check.goes(x, 3);
        x.tells(2, 3, 9, 2);
        due("the first week", x.differs(2, 0, 0), 0);
        due("this week", x.differs(2, 1, 0), 3);
        due("its shape", x.differs(2, 1, 1), 9);
        due("no more", x.differs(2, 2, 0), NONE);
    }

    // ---- for others

    /** week: "NONE for others". */
    private static void weekForOthers() {
        Towns.range("frame", 0, 2, NONE, () -> Towns.working("W=5"), (x, n) -> x.week(n, 0, 0, 0));
        Towns.range("what", 0, 7, NONE, WorkEdgesTest::withEntry, (x, n) -> x.week(0, 0, 0, n));
        FrameRents x = Towns.working("W=5");
        due("what 7, without an entry", x.week(0, 0, 0, 7), NONE);
        x.entry(0, 0, 0, 0, 0, 0, 0);
        due("what 7, with one", x.week(0, 0, 0, 7), 0);
    }

    /** earned: "0 too if there are no such ones". */
    private static void earnedForOthers() {
        Towns.range("knitter", 0, 1, 0, () -> Towns.working("W=5"), (x, n) -> x.earned(n, 0, 0, false));
        FrameRents x = Towns.working("W=5");
        x.number(0, 1000);
        due("the parish", x.earned(1, 0, 0, true), 4995);
        int[][] wrong = {{2, 0, 0}, {-1, 0, 0}, {0, 520, 0}, {0, -1, 0}, {0, 0, 520}, {0, 0, -1}};
        for (int[] w : wrong) {
            due("the parish pays none of such", x.earned(w[0], w[1], w[2], true), 0);
            due("none of such earns", x.earned(w[0], w[1], w[2], false), 0);
        }
    }

    /** look: "NONE for others". */
    private static void lookForOthers() {
        Towns.range("entry", 0, 0, NONE, WorkEdgesTest::withEntry, (x, n) -> x.look(n, 3));
        Towns.range("what", 0, 7, NONE, WorkEdgesTest::withEntry, (x, n) -> x.look(0, n));
        FrameRents x = withEntry();
        for (int e = 1; e < 303; e += e == 3 ? 295 : 1) {
            due("look at entry " + e, x.look(e, 0), NONE);
            due("entry " + e + " amiss", x.amiss(e), NONE);
        }
    }

    /** count: "NONE for others". */
    private static void countForOthers() {
        FrameRents x = Towns.working("W=1;R=2;C=3");
        Towns.range("what of counts", 0, 11, NONE, FrameRents::new, (y, n) -> y.count(n));
        for (int what = 12; what < 20; what++) due("count " + what, x.count(what), NONE);
        due("frame 0", x.count(20), 0);
        due("frame 2", x.count(22), 1);
        due("frame 3", x.count(23), NONE);
        for (int what = 36; what < 40; what++) due("count " + what, x.count(what), NONE);
        due("list 0", x.count(40), 3);
        due("list 1", x.count(41), NONE);
        for (int what = 49; what < 60; what++) due("count " + what, x.count(what), NONE);
    }
}
