/** Spreads, other lists beside, lots, debts and the fund (==== 4. and 5.): each sentence that names an edge, at it and just beyond it. */
public final class TradeEdgesTest {
    private static final int NONE = FrameRents.NONE;
    private static final long NO_GAIN = Check.NO_GAIN;

    public static void main(String[] args) {
        orderRanges();
        twentyFourEach();
        framesWhoseMaster();
        thatAreHired();
        firstTen();
        noFrames();
        gainOfAFrame();
        gainBounded();
        gainFacts();
        gainOfNone();
        idleIfNone();
        idleAsKnownNow();
        bestOfAll();
        leastRow();
        shareOfTheLastFound();
        judgeTheLastTold();
        judgeAsSpread();
        judgeRows();
        judgeTape();
        besideRanges();
        besideFromTo();
        besideHired();
        besideAsKnownNow();
        besideActsAsTheyAre();
        fortyLots();
        toldAsTold();
        leastFar();
        bothFar();
        noneTold();
        oneOfEighteen();
        pence();
        debtsAddUp();
        fewestPayments();
        twelveUneven();
        largestGroups();
        clearedDebts();
        fundRange();
        strikes();
        paidByNumbers();
        paidWholly();
        lastsWholeWeeks();
        lastsNeverEnds();
        paidThenNext();
        beyondTheCalls();
        Check.end();
    }

    private static void due(String call, long got, long want) {
        Check.due(call, got, want);
    }

    private static void due(String call, boolean got, boolean want) {
        Check.due(call, got, want);
    }

    private static void dueShares(String what, FrameRents x, int... want) {
        for (int f = 0; f < want.length; f++) due(what + ": share of " + f, x.share(f), want[f]);
    }

    /** House 0 with so many frames of gauges 10, 11, ..., all hired by knitter 0, and a list. */
    private static FrameRents shop(int frames, String list) {
        FrameRents x = new FrameRents();
        x.master(NONE);
        x.knitter(1);
        for (int f = 0; f < frames; f++) {
            x.frame(10 + f, 0, NONE);
            x.hire(f, 0);
        }
        due("list " + list, Check.list(x, list), 0);
        x.uses(0, 0);
        return x;
    }

    private static long judged(FrameRents x, int... row) {
        Check.feed(x, row);
        return x.judge(row.length);
    }

    // ---- the spread

    /** "D dozens (0 to 60) of a SHAPE...; a price for a dozen (0 to 100000)"; "no such ones (narrowings 0 to 40, yarn 0 to 99 for a dozen)". */
    private static void orderRanges() {
        Towns.range("master", 0, 0, NO_GAIN, () -> shop(3, "W=1"), (x, n) -> x.spread(n, 0, 1, 0, 0, 1));
        Towns.range("shape", 0, 9, NO_GAIN, () -> shop(3, "W=1"), (x, n) -> x.spread(0, n, 1, 0, 0, 1));
        Towns.range("dozens", 0, 60, NO_GAIN, () -> shop(3, "W=1"), (x, n) -> x.spread(0, 0, n, 0, 0, 1));
        Towns.range("narrowings", 0, 40, NO_GAIN, () -> shop(3, "W=1"), (x, n) -> x.spread(0, 0, 1, n, 0, 1));
        Towns.range("yarn", 0, 99, NO_GAIN, () -> shop(3, "W=1"), (x, n) -> x.spread(0, 0, 1, 0, n, 1));
        Towns.range("price", 0, 100000, NO_GAIN, () -> shop(3, "W=1"), (x, n) -> x.spread(0, 0, 1, 0, 0, n));
        FrameRents x = shop(3, "R=n*10000+y*10+s");
        due("the most of all", x.spread(0, 9, 60, 40, 99, 100000), 60 * (100000 + 400000 + 990L) + 3 * 9);
        due("a bagman, too", Towns.working("W=1").spread(2, 0, 1, 0, 0, 9), 8);
    }

    /** "0 to 24 dozens each, D in all"; "-1000000000000: none can be". */
    private static void twentyFourEach() {
        FrameRents x = shop(1, "W=d");
        due("24 on one", x.spread(0, 0, 24, 0, 0, 2), 24);
        dueShares("24", x, 24);
        due("25 on one", x.spread(0, 0, 25, 0, 0, 2), NO_GAIN);
        x = shop(2, "W=d*(g-9)");
        due("24 on two", x.spread(0, 0, 24, 0, 0, 2), 24);
        dueShares("24", x, 24, 0);
        due("25 on two", x.spread(0, 0, 25, 0, 0, 2), 24);
        dueShares("25", x, 24, 1);
        due("48 on two", x.spread(0, 0, 48, 0, 0, 2), 24);
        dueShares("48", x, 24, 24);
        due("49 on two", x.spread(0, 0, 49, 0, 0, 2), NO_GAIN);
        x = shop(3, "W=d");
        due("60 on three", x.spread(0, 0, 60, 0, 0, 2), 60);
        dueShares("60", x, 12, 24, 24);
        due("none on three", x.spread(0, 0, 0, 0, 0, 2), 0);
        dueShares("none", x, 0, 0, 0);
    }

    /** "over FRAMES whose MASTER it is (a KNITTER's own, too)". */
    private static void framesWhoseMaster() {
        FrameRents x = Towns.working("C=1");
        due("house 0: its one frame", x.spread(0, 0, 0, 0, 0, 0), 1);
        due("house 1: a knitter's own for it", x.spread(1, 0, 0, 0, 0, 0), 1);
        due("24 dozens on it", x.spread(1, 0, 24, 0, 0, 1), 25);
        dueShares("on it alone", x, 0, 0, 24);
        due("25 dozens", x.spread(1, 0, 25, 0, 0, 1), NO_GAIN);
        due("the bagman: his one frame", x.spread(2, 0, 0, 0, 0, 0), 1);
        x.frame(20, 0, 1);
        due("house 0: a knitter's own, too", x.spread(0, 0, 0, 0, 0, 0), 2);
        due("48 dozens on both", x.spread(0, 0, 48, 0, 0, 1), 50);
    }

    /** "that are HIRED". */
    private static void thatAreHired() {
        FrameRents x = shop(3, "C=1");
        x.back(1);
        due("two are hired", x.spread(0, 0, 48, 0, 0, 0), 2);
        dueShares("two", x, 24, 0, 24);
        due("49", x.spread(0, 0, 49, 0, 0, 0), NO_GAIN);
        x.hire(1, 0);
        due("three are hired", x.spread(0, 0, 49, 0, 0, 0), 3);
        x.back(0);
        x.back(1);
        x.back(2);
        due("none is hired", x.spread(0, 0, 1, 0, 0, 0), NO_GAIN);
    }

    /** "(the first ten, by numbers)". */
    private static void firstTen() {
        FrameRents x = shop(10, "C=1;R=g>19?d*10:0");
        due("ten", x.spread(0, 0, 1, 0, 0, 0), 10);
        x.frame(20, 0, NONE);
        due("an 11th that is not hired", x.spread(0, 0, 1, 0, 0, 0), 10);
        x.hire(10, 0);
        due("an 11th that would gain more is none of the ten", x.spread(0, 0, 1, 0, 0, 0), 10);
        due("it gets nothing", x.share(10), 0);
        due("the tenth does", x.share(9), 1);
        x.back(4);
        due("without one of the ten it is", x.spread(0, 0, 1, 0, 0, 0), 20);
        due("and gets it", x.share(10), 1);
        x.hire(4, 0);
        due("not any more", x.spread(0, 0, 1, 0, 0, 0), 10);
        due("rows are of ten", judged(x, 0, 0, 0, 0, 0, 0, 0, 0, 0, 1), 10);
        due("not of eleven", judged(x, 0, 0, 0, 0, 0, 0, 0, 0, 0, 0, 1), NO_GAIN);
        due("not of nine", judged(x, 0, 0, 0, 0, 0, 0, 0, 0, 1), NO_GAIN);
    }

    /** Over no frames the row of none is D in all if D is 0. */
    private static void noFrames() {
        FrameRents x = shop(0, "W=1");
        due("nothing to spread", x.spread(0, 0, 0, 5, 5, 100), 0);
        due("a row of none", x.judge(0), 0);
        due("one dozen", x.spread(0, 0, 1, 5, 5, 100), NO_GAIN);
        due("a row of none is not one dozen", x.judge(0), NO_GAIN);
    }

    /** "GAIN of a FRAME with k dozens: k times the price, less W, more by R and C". */
    private static void gainOfAFrame() {
        FrameRents x = shop(1, "W=d*7;R=30;C=d+2;T=d*3");
        for (int k = 0; k <= 24; k++) due("gain with " + k, x.spread(0, 0, k, 0, 0, 10), 10 * k - 7 * k + 30 + k + 2);
        due("price 0", x.spread(0, 0, 24, 0, 0, 0), -7 * 24 + 30 + 26);
        FrameRents own = Towns.working("W=d*7;R=30;C=d+2");
        due("one's own has no rent", own.spread(1, 0, 5, 0, 0, 10), 50 - 35 + 7);
        FrameRents none = Towns.town();
        due("without a list", none.spread(1, 0, 5, 0, 0, 10), 50);
    }

    /** "by the LIST in that WEEK and ACTS"; what is below 0 or above the most is bounded. */
    private static void gainBounded() {
        FrameRents x = shop(1, "W=d*7;R=30;C=5");
        Check.act(x, 1, 1, "R_20");
        Check.act(x, 1, 1, "W^d*8");
        due("week 0", x.spread(0, 0, 4, 0, 0, 10), 40 - 28 + 35);
        Check.goes(x, 1);
        due("week 1", x.spread(0, 0, 4, 0, 0, 10), 40 - 32 + 25);
        Check.list(x, "W=0-5");
        x.uses(0, 1);
        due("another list from this week on, W by an act", x.spread(0, 0, 4, 0, 0, 10), 40 - 32);
        Check.goes(x, 1);
        due("week 2, W below 0", x.spread(0, 0, 4, 0, 0, 10), 40);
        x = shop(1, "W=1000*1000*5000;R=0-9;C=0-9");
        due("W above the most", x.spread(0, 0, 1, 0, 0, 100000), 100000 - 1000000000);
        x = shop(10, "W=1000*1000*5000");
        due("of ten frames", x.spread(0, 0, 0, 0, 0, 0), -10000000000L);
        x = shop(10, "R=1000*1000*5000;C=R");
        due("of ten frames", x.spread(0, 0, 60, 0, 0, 100000), 20006000000L);
    }

    /** "with these FACTS (n, y: k times what is told for a dozen...)". */
    private static void gainFacts() {
        FrameRents x = Towns.working("R=n*10000;C=y*100+s");
        for (int k = 0; k <= 24; k++) due("n, y and s of " + k, x.spread(0, 7, k, 3, 11, 0), k * 30000 + k * 1100 + 7);
        due("the most", x.spread(0, 0, 24, 40, 99, 0), 24 * 400000 + 24 * 9900);
        x = Towns.working("R=g*1000+f*100+h*10+o;C=d*1000*1000+w");
        due("g f h o d w", x.spread(0, 0, 3, 0, 0, 0), 20000 + 200 + 30 + 3000000);
        due("of a bagman's", x.spread(2, 0, 3, 0, 0, 0), 30000 + 200 + 30 + 1 + 3000000);
        Check.goes(x, 4);
        due("in week 4", x.spread(0, 0, 3, 0, 0, 0), 20000 + 200 + 30 + 3000000 + 4);
        x.entry(0, 4, 9, 9, 9, 9, 9);
        due("an entry does not matter", x.spread(0, 0, 3, 0, 0, 0), 20000 + 200 + 30 + 3000000 + 4);
    }

    /** A FRAME with 0 dozens has its GAIN, too. */
    private static void gainOfNone() {
        FrameRents x = shop(3, "R=d=0?5:0;W=d=0?0:1");
        due("none has dozens", x.spread(0, 0, 0, 0, 0, 0), 15);
        due("one has", x.spread(0, 0, 24, 0, 0, 0), 9);
        dueShares("all on one", x, 0, 0, 24);
        due("two have", x.spread(0, 0, 25, 0, 0, 0), 3);
        dueShares("on two", x, 0, 1, 24);
    }

    /** "i: 0 if k is above 0, else as KNOWN now". */
    private static void idleIfNone() {
        FrameRents x = shop(2, "C=i*10");
        due("both idle in week 0", x.spread(0, 0, 0, 0, 0, 0), 20);
        due("one", x.spread(0, 0, 1, 0, 0, 0), 10);
        due("none", x.spread(0, 0, 25, 0, 0, 0), 0);
        Check.goes(x, 1);
        due("both idle in week 1", x.spread(0, 0, 0, 0, 0, 0), 40);
        Check.goes(x, 2);
        due("both idle in week 3", x.spread(0, 0, 0, 0, 0, 0), 80);
        x.entry(0, 1, 0, 2, 0, 0, 0);
        due("one since week 2", x.spread(0, 0, 0, 0, 0, 0), 20 + 40);
        due("it is the one that works", x.spread(0, 0, 1, 0, 0, 0), 40);
        dueShares("it", x, 1, 0);
        x.entry(0, 2, 0, 2, 0, 0, 0);
        due("one since this week", x.spread(0, 0, 0, 0, 0, 0), 10 + 40);
        x.back(1);
        due("not hired", x.spread(0, 0, 0, 0, 0, 0), 10);
        x.knitter(1);
        x.hire(1, 1);
        due("hired anew", x.spread(0, 0, 0, 0, 0, 0), 10 + 10);
    }

    /** "as if there were no ENTRY for WEEK NOW". */
    private static void idleAsKnownNow() {
        FrameRents x = shop(1, "C=i*10");
        x.entry(0, 0, 0, 9, 0, 0, 0);
        due("an entry for now", x.spread(0, 0, 0, 0, 0, 0), 10);
        due("but by the week it is not idle", x.week(0, 0, 0, 2), 0);
        Check.goes(x, 1);
        due("an entry for the week before", x.spread(0, 0, 0, 0, 0, 0), 10);
        Check.goes(x, 1);
        due("two weeks", x.spread(0, 0, 0, 0, 0, 0), 20);
        x.entry(0, 2, 0, 9, 0, 0, 0);
        due("an entry for now", x.spread(0, 0, 0, 0, 0, 0), 20);
        x.entry(0, 0, 0, 0, 0, 0, 0);
        due("told away", x.spread(0, 0, 0, 0, 0, 0), 30);
    }

    /** "THE BEST: of all rows that of most GAIN together". */
    private static void bestOfAll() {
        // what a dozen gains goes up and down with how many there are
        FrameRents x = shop(3, "W=d*d*(g-9);R=d%5*13;C=d>7?40:0");
        for (int all : new int[] {0, 1, 2, 7, 8, 13, 25, 40, 60}) {
            long best = Long.MIN_VALUE;
            int[] row = null;
            for (int a = 0; a <= 24; a++) {
                for (int b = 0; b <= 24; b++) {
                    int c = all - a - b;
                    if (c < 0 || c > 24) continue;
                    long gain = tried(a, 1) + tried(b, 2) + tried(c, 3) + 35L * all;
                    if (gain > best) row = new int[] {a, b, c};
                    best = Math.max(best, gain);
                }
            }
            due("the best of " + all, x.spread(0, 0, all, 0, 0, 35), best);
            dueShares("of " + all, x, row);
            due("as judged", judged(x, row), best);
        }
    }

    private static long tried(int k, int g) {
        return -k * k * g + k % 5 * 13 + (k > 7 ? 40 : 0);
    }

    /** "of like ones the least row". */
    private static void leastRow() {
        FrameRents x = shop(4, "W=d*5");
        due("one dozen", x.spread(0, 0, 1, 0, 0, 5), 0);
        dueShares("one", x, 0, 0, 0, 1);
        due("25 dozens", x.spread(0, 0, 25, 0, 0, 5), 0);
        dueShares("25", x, 0, 0, 1, 24);
        due("50 dozens", x.spread(0, 0, 50, 0, 0, 5), 0);
        dueShares("50", x, 0, 2, 24, 24);
        x = shop(2, "W=d=3?0:100");
        due("3 somewhere", x.spread(0, 0, 9, 0, 0, 0), -100);
        dueShares("the least first", x, 3, 6);
        x = shop(3, "W=d*(g=11?4:5)");
        due("the middle one first, the rest by the least row", x.spread(0, 0, 30, 0, 0, 0), -96 - 30);
        dueShares("30", x, 0, 24, 6);
    }

    /** "Dozens of FRAME f in THE BEST SPREAD that was found last; 0 if it gets nothing, or none was found." */
    private static void shareOfTheLastFound() {
        FrameRents x = shop(2, "W=d*g");
        dueShares("none was found", x, 0, 0);
        due("can't be", x.spread(0, 0, 49, 0, 0, 0), NO_GAIN);
        dueShares("none was found", x, 0, 0);
        due("30", x.spread(0, 0, 30, 0, 0, 0), -240 - 66);
        dueShares("30", x, 24, 6);
        for (int f : new int[] {2, 15, 16, -1, Integer.MAX_VALUE, Integer.MIN_VALUE}) due("share of " + f, x.share(f), 0);
        due("can't be", x.spread(0, 0, 49, 0, 0, 0), NO_GAIN);
        dueShares("that of the last found stays", x, 24, 6);
        due("no such order", x.spread(0, 0, 61, 0, 0, 0), NO_GAIN);
        due("no such master", x.spread(1, 0, 1, 0, 0, 0), NO_GAIN);
        dueShares("that of the last found stays", x, 24, 6);
        x.back(0);
        dueShares("that of the last found stays", x, 24, 6);
        Check.goes(x, 1);
        judged(x, 24);
        dueShares("that of the last found stays", x, 24, 6);
        due("5", x.spread(0, 0, 5, 0, 0, 0), -55);
        dueShares("5", x, 0, 5);
        x.master(NONE);
        due("another master's, of nothing", x.spread(1, 0, 0, 0, 0, 0), 0);
        dueShares("found: nothing", x, 0, 0);
    }

    // ---- judge

    /** "as spread() for the order told last there (found, or not)"; "no order was told". */
    private static void judgeTheLastTold() {
        FrameRents x = shop(2, "W=d*g;R=y*100;C=n*1000+s");
        due("no order was told", judged(x, 1, 2), NO_GAIN);
        due("the tape stays", x.count(10), 20);
        due("no such order", x.spread(0, 0, 61, 0, 0, 0), NO_GAIN);
        due("no order was told", x.judge(2), NO_GAIN);
        due("the tape stays", x.count(10), 20);
        due("an order that can't be", x.spread(0, 0, 49, 0, 0, 0), NO_GAIN);
        due("it was told", x.judge(2), NO_GAIN);
        due("the tape is empty then", x.count(10), 0);
        x.spread(0, 5, 3, 2, 1, 50);
        due("found", judged(x, 1, 2), 150 - 10 - 22 + 300 + 6000 + 10);
        x.spread(0, 10, 7, 0, 0, 0);
        x.spread(1, 0, 7, 0, 0, 0);
        due("such as are none are not told", judged(x, 1, 2), 150 - 10 - 22 + 300 + 6000 + 10);
        x.spread(0, 0, 49, 0, 0, 0);
        due("told, though not found", judged(x, 1, 2), NO_GAIN);
        x.spread(0, 0, 4, 0, 0, 0);
        due("another D", judged(x, 1, 2), NO_GAIN);
        due("that D", judged(x, 2, 2), -42);
    }

    /** "as spread()": with the FRAMES, the LIST, the ACTS and the WEEK of now. */
    private static void judgeAsSpread() {
        FrameRents x = shop(3, "W=d*g+w");
        due("spread", x.spread(0, 0, 4, 0, 0, 100), 400 - 40);
        due("row", judged(x, 1, 1, 2), 400 - 10 - 11 - 24);
        Check.act(x, 0, 0, "W_20");
        due("with an act", judged(x, 1, 1, 2), 400 - 10 - 11 - 20);
        Check.goes(x, 1);
        due("a week later", judged(x, 1, 1, 2), 400 - 11 - 12 - 25);
        Check.list(x, "W=d");
        x.uses(0, 1);
        due("by another list", judged(x, 1, 1, 2), 400 - 4);
        x.back(1);
        due("three are too many", judged(x, 1, 1, 2), NO_GAIN);
        due("two", judged(x, 1, 3), 400 - 4);
        due("as spread does", x.spread(0, 0, 4, 0, 0, 100), 400 - 4);
    }

    /** "-1000000000000: another n, above 24, not D in all". */
    private static void judgeRows() {
        FrameRents x = shop(2, "W=d+7");
        x.spread(0, 0, 30, 0, 0, 10);
        due("24 and 6", judged(x, 24, 6), 300 - 30 - 14);
        due("6 and 24", judged(x, 6, 24), 300 - 30 - 14);
        due("25 and 5", judged(x, 25, 5), NO_GAIN);
        due("5 and 25", judged(x, 5, 25), NO_GAIN);
        due("30 and 0", judged(x, 30, 0), NO_GAIN);
        due("29 in all", judged(x, 24, 5), NO_GAIN);
        due("31 in all", judged(x, 24, 7), NO_GAIN);
        due("none", judged(x, 0, 0), NO_GAIN);
        due("bytes are 0 to 255", judged(x, 255, 31), NO_GAIN);
        due("one", judged(x, 30), NO_GAIN);
        due("three", judged(x, 24, 6, 0), NO_GAIN);
        x.spread(0, 0, 48, 0, 0, 10);
        due("24 and 24", judged(x, 24, 24), 480 - 48 - 14);
        x.spread(0, 0, 0, 0, 0, 10);
        due("0 and 0", judged(x, 0, 0), -14);
        x.feed(0, 0, 0, 0, 0);
        due("n 0", x.judge(0), NO_GAIN);
    }

    /** "the first n bytes of the tape (empty then)"; "no order was told, it has not so many, n is below 0 (the tape stays by these three)". */
    private static void judgeTape() {
        FrameRents x = shop(1, "W=d");
        x.feed(0x05060708, 0, 0, 0, 0);
        int[] wrong = {0, 1, 20, 21, -1};
        for (int n : wrong) {
            due("no order, n " + n, x.judge(n), NO_GAIN);
            due("the tape stays", x.count(10), 20);
        }
        x.spread(0, 0, 5, 0, 0, 3);
        for (int n : new int[] {-1, 21, 200, Integer.MAX_VALUE, Integer.MIN_VALUE}) {
            due("n " + n, x.judge(n), NO_GAIN);
            due("the tape stays", x.count(10), 20);
        }
        due("the first byte, as it was", x.judge(1), 10);
        due("empty then", x.count(10), 0);
        due("nothing left", x.judge(1), NO_GAIN);
        for (int n : new int[] {0, 2, 20}) {
            x.feed(0x05060708, 0, 0, 0, 0);
            due("another n, " + n, x.judge(n), NO_GAIN);
            due("empty then", x.count(10), 0);
        }
        x.feed(0x19000000, 0, 0, 0, 0);
        due("above 24", x.judge(1), NO_GAIN);
        due("empty then", x.count(10), 0);
        x.feed(0x04000000, 0, 0, 0, 0);
        due("not D", x.judge(1), NO_GAIN);
        due("empty then", x.count(10), 0);
    }

    // ---- beside

    private static FrameRents besideTown() {
        FrameRents x = Towns.townWith("W=100", "W=d*10+w;R=3;C=1");
        x.uses(0, 0);
        x.hire(0, 0);
        Check.goes(x, 3);
        return x;
    }

    /** "-1000000000000: no such ones (WEEKS up to NOW)". */
    private static void besideRanges() {
        Towns.range("master", 0, 2, NO_GAIN, TradeEdgesTest::besideTown, (x, n) -> x.beside(n, 0, 0, 0));
        Towns.range("list", 0, 1, NO_GAIN, TradeEdgesTest::besideTown, (x, n) -> x.beside(0, n, 0, 0));
        Towns.range("from", 0, 3, NO_GAIN, TradeEdgesTest::besideTown, (x, n) -> x.beside(0, 0, n, 3));
        Towns.range("to", 0, 3, NO_GAIN, TradeEdgesTest::besideTown, (x, n) -> x.beside(0, 0, 0, n));
        due("from behind to", besideTown().beside(0, 0, 2, 1), NO_GAIN);
    }

    /** "all WEEKS from one to another one". */
    private static void besideFromTo() {
        FrameRents x = besideTown();
        x.entry(0, 2, 0, 7, 0, 0, 0);
        long[] nets = {-4, -3, 68, -1};
        for (int from = 0; from < 4; from++) {
            long all = 0;
            for (int to = from; to < 4; to++) {
                all += nets[to];
                due("from " + from + " to " + to, x.beside(0, 1, from, to), all);
            }
        }
        due("its own list", x.beside(0, 0, 0, 3), 400);
    }

    /** "all FRAMES whose MASTER it is that were HIRED at their end". */
    private static void besideHired() {
        FrameRents x = Towns.townWith("W=10");
        x.frame(20, 0, 0);
        due("a knitter's own, too", x.beside(0, 0, 0, 0), 10);
        x.hire(0, 0);
        due("and one that is hired", x.beside(0, 0, 0, 0), 20);
        x.back(0);
        due("not hired at the end", x.beside(0, 0, 0, 0), 10);
        Check.goes(x, 1);
        x.hire(0, 1);
        Check.goes(x, 1);
        x.back(0);
        due("by weeks", x.beside(0, 0, 0, 2), 10 + 20 + 10);
        due("another master", x.beside(1, 0, 0, 2), 30);
        due("none of his", x.beside(2, 0, 0, 2), 0);
        FrameRents own = Towns.townWith("W=10;R=4");
        due("one's own has no rent", own.beside(1, 0, 0, 0), 10);
        FrameRents many = shop(12, "W=10");
        due("more than ten, too", many.beside(0, 0, 0, 0), 120);
    }

    /** "as KNOWN now". */
    private static void besideAsKnownNow() {
        FrameRents x = Towns.townWith("W=d*10+i");
        x.hire(0, 0);
        x.entry(0, 0, 0, 3, 0, 0, 0);
        due("told", x.beside(0, 0, 0, 0), 30);
        Check.goes(x, 2);
        x.entry(0, 0, 0, 5, 0, 0, 0);
        due("told otherwise later", x.beside(0, 0, 0, 0), 50);
        due("idle since", x.beside(0, 0, 0, 2), 50 + 1 + 2);
    }

    /** "(ACTS as they are)"; the MASTER's own LIST does not matter. */
    private static void besideActsAsTheyAre() {
        FrameRents x = Towns.townWith("W=100", "W=50;A=7");
        x.uses(0, 0);
        x.hire(0, 0);
        Check.goes(x, 1);
        Check.act(x, 1, 1, "W_30+A");
        due("by its own list", x.beside(0, 0, 0, 1), 100 + 30);
        due("by another", x.beside(0, 1, 0, 1), 50 + 37);
        due("the weeks are as they were", x.week(0, 0, 1, 0), 100);
        due("the list is as it was", x.listOf(0, 1), 0);
        due("a master without a list", x.beside(1, 1, 0, 1), 50 + 37);
    }

    // ---- lots

    /** "LOTS 0 to 39"; "MARKS (8 bits)"; "40 are there". */
    private static void fortyLots() {
        Towns.range("marks", 0, 255, NONE, FrameRents::new, (x, n) -> x.lot(n));
        FrameRents x = new FrameRents();
        for (int l = 0; l < 40; l++) {
            due("no such marks", x.lot(256), NONE);
            due("lot", x.lot(l), l);
        }
        due("a 41st", x.lot(0), NONE);
        due("forty", x.count(7), 40);
        due("the last is told", x.told(39, 2), true);
        due("the last", x.is(39), 2);
        due("none behind it", x.told(40, 2), false);
        due("none behind it", x.is(40), NONE);
        due("nearest to it", x.is(0), 2);
    }

    private static FrameRents lots(int... marks) {
        FrameRents x = new FrameRents();
        for (int m : marks) x.lot(m);
        return x;
    }

    /** "told WROUGHT (1) or CUT (2), or not any more (0): true; false: no such ones". */
    private static void toldAsTold() {
        Towns.range("what is told", 0, 2, 0, () -> lots(1, 2), (x, n) -> Towns.of(x.told(0, n)));
        Towns.range("lot that is told", 0, 1, 0, () -> lots(1, 2), (x, n) -> Towns.of(x.told(n, 1)));
        Towns.range("lot that is asked", 0, 1, NONE, () -> lots(1, 2), (x, n) -> x.is(n));
        FrameRents x = lots(0, 0);
        for (int l : new int[] {2, 3, 38, 39, 40, 41}) {
            due("told of " + l, x.told(l, 1), false);
            due("is " + l, x.is(l), NONE);
        }
        due("wrought", x.told(0, 1), true);
        due("wrought again", x.told(0, 1), true);
        due("as told", x.is(0), 1);
        x.told(1, 2);
        due("as told, whatever the others are", x.is(0), 1);
        due("refused", x.told(0, 3), false);
        due("as told still", x.is(0), 1);
        due("cut", x.told(0, 2), true);
        due("as told", x.is(0), 2);
        due("not any more", x.told(1, 0), true);
        due("not any more, again", x.told(1, 0), true);
        due("by the other", x.is(1), 2);
    }

    /** "FAR are two LOTS by how many MARKS they differ"; "of LOTS that are told those least FAR". */
    private static void leastFar() {
        FrameRents x = lots(0, 255, 127, 15);
        x.told(1, 2);
        due("8 far", x.is(0), 2);
        x.told(2, 1);
        due("7 is less far", x.is(0), 1);
        due("4 and 3 far", x.is(3), 1);
        x.told(3, 2);
        due("4 is less far", x.is(0), 2);
        x.told(3, 0);
        due("not told any more", x.is(0), 1);
        FrameRents bits = lots(0b10101010, 0b01010101, 0b10101011);
        bits.told(1, 1);
        due("all differ", bits.is(0), 1);
        bits.told(2, 2);
        due("one differs", bits.is(0), 2);
        FrameRents ones = lots(255, 255, 0);
        ones.told(1, 1);
        ones.told(2, 2);
        due("none differ, though all are there", ones.is(0), 1);
        FrameRents none = lots(0, 0, 255);
        none.told(1, 1);
        none.told(2, 2);
        due("none differ, though none are there", none.is(0), 1);
    }

    /** "all WROUGHT: 1; all CUT: 2; both: 3". */
    private static void bothFar() {
        FrameRents x = lots(0, 1, 2, 4, 3);
        x.told(1, 1);
        x.told(2, 1);
        x.told(4, 2);
        due("all wrought, the one further off not", x.is(0), 1);
        x.told(3, 2);
        due("both", x.is(0), 3);
        x.told(1, 2);
        x.told(2, 2);
        due("all cut", x.is(0), 2);
        x.told(2, 1);
        due("both again", x.is(0), 3);
        FrameRents like = lots(9, 9, 9);
        like.told(1, 1);
        like.told(2, 2);
        due("both with the same marks", like.is(0), 3);
    }

    /** "none are told: 0". */
    private static void noneTold() {
        FrameRents x = lots(5, 6);
        due("none", x.is(0), 0);
        x.told(0, 1);
        x.told(0, 0);
        due("none any more", x.is(0), 0);
        due("none any more", x.is(1), 0);
        due("no lot", new FrameRents().is(0), NONE);
    }

    // ---- debts

    /** "one of 18 owes another one (MASTERS 0 to 5, KNITTERS 6 to 17)"; "no such two (one twice, no such MASTER or KNITTER too)". */
    private static void oneOfEighteen() {
        Towns.range("who owes", 1, 17, 0, Towns::eighteen, (x, n) -> Towns.of(x.owes(n, 0, 5)));
        Towns.range("to whom", 1, 17, 0, Towns::eighteen, (x, n) -> Towns.of(x.owes(0, n, 5)));
        for (int a = 0; a < 18; a++) {
            FrameRents x = Towns.eighteen();
            due("oneself", x.owes(a, a, 5), false);
            due("another", x.owes(a, (a + 1) % 18, 5), true);
            due("owes", x.net(a), -5);
            due("has to get", x.net((a + 1) % 18), 5);
        }
        FrameRents town = Towns.town();
        for (int a = -1; a < 19; a++) {
            boolean is = a >= 1 && a <= 2 || a == 6 || a == 7;
            due("0 owes " + a, town.owes(0, a, 1), is);
            due(a + " owes 0", town.owes(a, 0, 1), is);
        }
        due("both ways", town.net(0), 0);
        Towns.range("whose net", 0, 0, 0, TradeEdgesTest::owing, (x, n) -> x.net(n));
    }

    private static FrameRents owing() {
        FrameRents x = Towns.eighteen();
        x.owes(0, 9, 5);
        return x;
    }

    /** "pence (1 to 1000000)". */
    private static void pence() {
        Towns.range("pence", 1, 1000000, 0, Towns::town, (x, n) -> Towns.of(x.owes(0, 1, n)));
        FrameRents x = Towns.town();
        x.owes(0, 1, 1);
        x.owes(0, 1, 1000000);
        due("a refused one", x.owes(0, 1, 1000001), false);
        due("a refused one", x.owes(0, 1, 0), false);
        due("a refused one", x.owes(0, 1, -1), false);
        due("both are owed, the refused are not", x.net(1), 1000001);
        FrameRents y = Towns.town();
        y.owes(0, 1, 0);
        y.owes(0, 0, 5);
        due("nothing is owed by such as are refused", y.clear(), false);
    }

    /** "added up"; "NETTED: each one's debts to it less its own". */
    private static void debtsAddUp() {
        FrameRents x = Towns.town();
        for (int i = 0; i < 300; i++) x.owes(0, 1, 1000000);
        x.owes(1, 0, 7);
        x.owes(1, 6, 3);
        x.owes(6, 0, 3);
        due("0", x.net(0), -299999990);
        due("1", x.net(1), 299999990);
        due("6", x.net(6), 0);
        due("2", x.net(2), 0);
        due("7", x.net(7), 0);
        for (int a : new int[] {3, 5, 8, 17, 18, -1, Integer.MAX_VALUE, Integer.MIN_VALUE}) due("no such one", x.net(a), 0);
        due("one payment", x.payments(), 1);
        FrameRents y = Towns.town();
        for (int i = 0; i < 500; i++) y.owes(i % 2, 2, 1000000);
        due("all to one", y.net(2), 500000000);
    }

    /** "THE FEWEST payments: as many as of those that are not at 0, less into how many groups... each of which comes to 0 by itself". */
    private static void fewestPayments() {
        FrameRents x = Towns.eighteen();
        due("no debts", x.payments(), 0);
        x.owes(0, 1, 4);
        due("two in one group", x.payments(), 1);
        x.owes(1, 2, 4);
        due("one is at 0", x.payments(), 1);
        x.owes(2, 0, 4);
        due("a ring of debts: all are at 0", x.payments(), 0);
        x.owes(0, 1, 5);
        x.owes(0, 2, 6);
        due("three in one group", x.payments(), 2);
        x.owes(3, 4, 7);
        due("five in two groups", x.payments(), 3);
        x.owes(4, 0, 7);
        due("four: -4 5 6 -7", x.payments(), 3);
        x.owes(5, 0, 1);
        due("five: -3 5 6 -7 -1", x.payments(), 4);
        x.owes(5, 6, 1);
        due("six: -3 5 6 -7 -2 1, of which 5 -3 -2, and 6 1 -7", x.payments(), 4);
    }

    /** "(More than 12 that are not at 0: it is not told.)". */
    private static void twelveUneven() {
        FrameRents x = Towns.eighteen();
        for (int a = 0; a < 11; a++) x.owes(a, 11, 1 << a);
        due("twelve in one group", x.payments(), 11);
        x.owes(12, 11, 1);
        due("thirteen", x.payments(), NONE);
        x.owes(11, 12, 1);
        due("twelve again", x.payments(), 11);
        x.owes(0, 17, 1);
        due("0 is at -2 now, 17 at 1", x.payments(), NONE);
        x.owes(17, 0, 1);
        x.owes(11, 0, 1);
        due("one comes to 0", x.payments(), 10);
        x.owes(16, 17, 9);
        due("thirteen", x.payments(), NONE);
        due("clear", x.clear(), true);
        due("none", x.payments(), 0);
        FrameRents all = Towns.eighteen();
        for (int a = 0; a < 18; a++) all.owes(a, (a + 1) % 18, 5);
        due("eighteen, all at 0", all.payments(), 0);
        for (int a = 0; a < 12; a += 2) all.owes(a, a + 1, a + 1);
        due("six pairs", all.payments(), 6);
        all.owes(12, 13, 100);
        due("seven", all.payments(), NONE);
    }

    /** "into how many groups (as many as may be) they can be parted". */
    private static void largestGroups() {
        FrameRents x = Towns.eighteen();
        x.owes(3, 0, 6);
        x.owes(4, 1, 3);
        x.owes(5, 2, 3);
        x.owes(4, 0, 1);
        x.owes(4, 2, 2);
        x.owes(5, 1, 1);
        // 7 4 5 -6 -6 -4: 4 and -4 part
        due("balances", x.net(0) * 10000 + x.net(1) * 1000 + x.net(2) * 100 - x.net(3) * 10 - x.net(4), 70000 + 4000 + 500 + 60 + 6);
        due("two groups", x.payments(), 4);
        FrameRents y = Towns.eighteen();
        for (int i = 0; i < 6; i++) y.owes(i, 6 + i, 10);
        due("six pairs of the same", y.payments(), 6);
        y.owes(0, 6, 5);
        due("six pairs", y.payments(), 6);
        y.owes(1, 6, 5);
        due("as many groups as by trying all", y.payments(), 12 - groupsOf(-15, -15, -10, -10, -10, -10, 20, 10, 10, 10, 10, 10));
    }

    /** Into how many groups at most, by trying for each one all groups that it may be in. */
    private static int groupsOf(int... nets) {
        return groups(nets, (1 << nets.length) - 1);
    }

    private static int groups(int[] nets, int left) {
        if (left == 0) return 0;
        int first = Integer.lowestOneBit(left);
        int others = left - first;
        int most = -100;
        for (int with = others; ; with = (with - 1) & others) {
            int sum = 0;
            for (int i = 0; i < nets.length; i++) sum += ((with | first) >> i & 1) * nets[i];
            if (sum == 0) most = Math.max(most, 1 + groups(nets, others - with));
            if (with == 0) return most;
        }
    }

    /** "All that is owed is paid as NETTED: DEBTS are none: true; false: there are none." */
    private static void clearedDebts() {
        FrameRents x = Towns.eighteen();
        due("none", x.clear(), false);
        x.owes(0, 17, 5);
        x.owes(3, 4, 5);
        due("paid", x.clear(), true);
        for (int a = 0; a < 18; a++) due("net of " + a, x.net(a), 0);
        due("none", x.clear(), false);
        x.owes(0, 1, 5);
        due("owed anew", x.net(1), 5);
        x.owes(1, 0, 5);
        due("even, but owed", x.payments(), 0);
        due("paid", x.clear(), true);
        due("none", x.clear(), false);
        due("the fund has nothing of it", x.count(8), 0);
    }

    // ---- the fund

    /** "no such sum (1 to 1000000)". */
    private static void fundRange() {
        Towns.range("sum", 1, 1000000, NONE, FrameRents::new, (x, n) -> x.fund(n));
        FrameRents x = new FrameRents();
        due("1", x.fund(1), 1);
        due("0", x.fund(0), NONE);
        due("1000001", x.fund(1000001), NONE);
        due("-1", x.fund(-1), NONE);
        due("the most", x.fund(1000000), 1000001);
        due("the refused are not in it", x.count(8), 1000001);
        for (int i = 0; i < 500; i++) x.fund(1000000);
        due("much", x.count(8), 501000001);
    }

    /** "true; false: no such one, it is so." */
    private static void strikes() {
        Towns.range("who strikes", 0, 1, 0, Towns::town, (x, n) -> Towns.of(x.strike(n, true)));
        FrameRents x = Towns.town();
        due("does not strike", x.strike(1, false), false);
        due("none", x.count(9), 0);
        due("strikes", x.strike(1, true), true);
        due("it is so", x.strike(1, true), false);
        due("one", x.count(9), 1);
        due("the other does not", x.strike(0, false), false);
        due("does not any more", x.strike(1, false), true);
        due("it is so", x.strike(1, false), false);
        due("none", x.count(9), 0);
        due("no such one", x.strike(2, false), false);
        due("strikes again", x.strike(1, true), true);
        FrameRents all = Towns.eighteen();
        for (int k = 0; k < 12; k++) due("all strike", all.strike(k, true), true);
        due("twelve", all.count(9), 12);
        all.number(2, 1000);
        all.fund(12000);
        due("all are paid", all.goes(), 12000);
    }

    /** Knitters of so many heads who all strike, at a penny a head. */
    private static FrameRents strikers(int... heads) {
        FrameRents x = new FrameRents();
        for (int k = 0; k < heads.length; k++) {
            x.knitter(heads[k]);
            x.strike(k, true);
        }
        x.number(2, 1);
        return x;
    }

    /** "by numbers, each wholly if there is as much, else not at all (the next ones may be)". */
    private static void paidByNumbers() {
        // 5, 1 and 2 are due: with 4 the first gets nothing and the others all, with 5 the first takes all
        int[] paid = {0, 1, 1, 3, 3, 5, 6, 6, 8, 8, 8};
        for (int pence = 1; pence < paid.length; pence++) {
            FrameRents x = strikers(5, 1, 2);
            x.fund(pence);
            due("paid of " + pence, x.goes(), paid[pence]);
            due("left of " + pence, x.count(8), pence - paid[pence]);
        }
        FrameRents x = strikers(9, 8, 1);
        x.fund(8);
        due("not the first: the second", x.goes(), 8);
        x.fund(7);
        due("neither: the third", x.goes(), 1);
        due("the third again", x.goes(), 1);
        due("left", x.count(8), 5);
    }

    /** "each wholly if there is as much": as much as that is enough. */
    private static void paidWholly() {
        FrameRents x = strikers(3);
        x.number(2, 7);
        x.fund(20);
        due("one too few", x.goes(), 0);
        due("all is left", x.count(8), 20);
        x.fund(1);
        due("as much", x.goes(), 21);
        due("none is left", x.count(8), 0);
        due("nothing to pay with", x.goes(), 0);
        x.fund(50);
        x.strike(0, false);
        due("does not strike any more", x.goes(), 0);
        x.strike(0, true);
        x.number(2, 0);
        due("nothing a head", x.goes(), 0);
        x.number(2, 1000);
        due("1000 a head", x.goes(), 0);
        x.fund(3000 - 50);
        due("1000 a head", x.goes(), 3000);
    }

    /** "LASTS: in how many WEEKS from now (that many wholly paid) if nothing comes in any more". */
    private static void lastsWholeWeeks() {
        int[] sums = {1, 7, 8, 9, 15, 16, 17, 23, 24};
        for (int sum : sums) {
            FrameRents x = strikers(5, 1, 2);
            x.fund(sum);
            int lasts = x.lasts();
            due("lasts with " + sum, lasts, sum / 8);
            for (int i = 0; i < lasts; i++) {
                due("a week less", x.lasts(), lasts - i);
                due("wholly paid", x.goes(), 8);
            }
            due("no more", x.lasts(), 0);
            due("not wholly", x.goes() < 8, true);
        }
        FrameRents x = strikers(5, 1, 2);
        due("an empty fund", x.lasts(), 0);
        FrameRents much = strikers(1);
        for (int i = 0; i < 400; i++) much.fund(1000000);
        due("beyond all weeks", much.lasts(), 400000000);
    }

    /** "none if it never ends (no STRIKERS, or nothing a HEAD)". */
    private static void lastsNeverEnds() {
        FrameRents x = Towns.town();
        due("no strikers, nothing a head", x.lasts(), NONE);
        x.number(2, 5);
        due("no strikers", x.lasts(), NONE);
        x.fund(100);
        due("no strikers", x.lasts(), NONE);
        x.strike(0, true);
        due("15 a week", x.lasts(), 6);
        x.number(2, 0);
        due("nothing a head", x.lasts(), NONE);
        x.number(2, 1);
        due("1 a head", x.lasts(), 33);
        x.strike(0, false);
        due("no strikers", x.lasts(), NONE);
    }

    /** "A WEEK goes by: STRIKERS are paid, then NOW is the next WEEK." */
    private static void paidThenNext() {
        FrameRents x = Towns.town();
        x.strike(1, true);
        x.number(2, 2);
        x.fund(25);
        due("paid", x.goes(), 10);
        due("now", x.count(0), 1);
        due("left", x.count(8), 15);
        due("entries for it", x.entry(0, 1, 0, 0, 0, 0, 0), 0);
        due("paid", x.goes(), 10);
        due("not wholly", x.goes(), 0);
        due("now, all the same", x.count(0), 3);
        due("one's net is another thing", x.net(7), 0);
        due("what is earned is another thing", x.earned(1, 0, 0, false), 0);
    }

    /** What no 512 calls come to, and is free then: "NONE: it is 519", and a FUND "to 1000000000". */
    private static void beyondTheCalls() {
        FrameRents x = new FrameRents();
        for (int w = 1; w <= 519; w++) x.goes();
        due("the last week", x.count(0), 519);
        due("no other", x.goes(), NONE);
        due("it stays", x.count(0), 519);
        FrameRents y = new FrameRents();
        for (int i = 0; i < 999; i++) y.fund(1000000);
        y.fund(1);
        due("1 above", y.fund(1000000), NONE);
        due("it stays", y.count(8), 999000001);
        due("the most", y.fund(999999), 1000000000);
        due("1 above", y.fund(1), NONE);
        due("it stays", y.count(8), 1000000000);
    }
}
