/** Promise by promise: ordinary inputs, the edges that the document names, and wrong inputs. */
public final class PromisesTest {
    private static final int NONE = FrameRents.NONE;
    private static final long NO_GAIN = Check.NO_GAIN;

    public static void main(String[] args) {
        newObject();
        master();
        knitter();
        frame();
        hire();
        back();
        feed();
        listTexts();
        listFaults();
        listRefused();
        act();
        actFaults();
        uses();
        listOf();
        worth();
        reckoning();
        entry();
        week();
        weekFacts();
        weekAsKnown();
        weekIdle();
        weekTruck();
        earned();
        number();
        amiss();
        tells();
        differs();
        spread();
        spreadFacts();
        share();
        judge();
        beside();
        lot();
        told();
        is();
        owes();
        net();
        payments();
        clear();
        fund();
        strike();
        lasts();
        goes();
        look();
        count();
        Check.end();
    }

    private static void due(String call, long got, long want) {
        Check.due(call, got, want);
    }

    private static void due(String call, boolean got, boolean want) {
        Check.due(call, got, want);
    }

    private static FrameRents town() {
        return Towns.town();
    }

    private static FrameRents townWith(String... lists) {
        return Towns.townWith(lists);
    }

    // Promise 1
    private static void newObject() {
        FrameRents x = new FrameRents();
        for (int what = 0; what < 12; what++) due("count of a new object", x.count(what), 0);
        due("no frame yet", x.count(20), NONE);
        due("no list yet", x.count(40), NONE);
        due("no order yet", x.share(0), 0);
        due("waste at first", wasteAtFirst(), 0);
        due("NONE", FrameRents.NONE, -1);
    }

    private static long wasteAtFirst() {
        FrameRents x = town();
        x.entry(0, 0, 0, 1, 0, 100, 95);
        return x.amiss(0);
    }

    // Promise 2
    private static void master() {
        FrameRents x = new FrameRents();
        due("a bagman of no house", x.master(0), NONE);
        due("a house", x.master(NONE), 0);
        due("its bagman", x.master(0), 1);
        due("a bagman's bagman", x.master(1), NONE);
        due("-2", x.master(-2), NONE);
        due("no such house", x.master(2), NONE);
        due("far", x.master(Integer.MAX_VALUE), NONE);
        due("far below", x.master(Integer.MIN_VALUE), NONE);
        for (int m = 2; m < 6; m++) due("master", x.master(m % 2 == 0 ? NONE : 0), m);
        due("a seventh", x.master(NONE), NONE);
        due("a seventh", x.master(0), NONE);
        due("six", x.count(1), 6);
    }

    // Promise 3
    private static void knitter() {
        FrameRents x = new FrameRents();
        due("no heads", x.knitter(0), NONE);
        due("ten heads", x.knitter(10), NONE);
        due("-1 heads", x.knitter(-1), NONE);
        for (int k = 0; k < 12; k++) due("knitter", x.knitter(k % 9 + 1), k);
        due("a 13th", x.knitter(1), NONE);
        due("twelve", x.count(2), 12);
    }

    // Promise 4
    private static void frame() {
        FrameRents x = new FrameRents();
        due("no master", x.frame(20, 0, NONE), NONE);
        x.master(NONE);
        x.knitter(1);
        due("gauge 9", x.frame(9, 0, NONE), NONE);
        due("gauge 41", x.frame(41, 0, NONE), NONE);
        due("no such master", x.frame(20, 1, NONE), NONE);
        due("master NONE", x.frame(20, NONE, 0), NONE);
        due("no such knitter", x.frame(20, 0, 1), NONE);
        due("knitter -2", x.frame(20, 0, -2), NONE);
        due("none yet", x.count(3), 0);
        due("gauge 10", x.frame(10, 0, NONE), 0);
        due("gauge 40, own", x.frame(40, 0, 0), 1);
        due("the owner has it", x.count(21), 0);
        due("the house's is free", x.count(20), NONE);
        for (int f = 2; f < 16; f++) due("frame", x.frame(20, 0, NONE), f);
        due("a 17th", x.frame(20, 0, NONE), NONE);
        due("sixteen", x.count(3), 16);
    }

    // Promise 5
    private static void hire() {
        FrameRents x = town();
        due("no such frame", x.hire(3, 0), false);
        due("frame -1", x.hire(-1, 0), false);
        due("no such knitter", x.hire(0, 2), false);
        due("knitter NONE", x.hire(0, NONE), false);
        due("one's own", x.hire(2, 1), false);
        due("own, by another", x.hire(2, 0), false);
        due("hire", x.hire(0, 0), true);
        due("hired, the same", x.hire(0, 0), false);
        due("hired, another", x.hire(0, 1), false);
        due("held", x.count(20), 0);
        Check.goes(x, 1);
        due("hire later", x.hire(1, 1), true);
        due("not before", x.week(1, 0, 1, 6), NONE);
        due("from then on", x.week(1, 1, 1, 6), 1);
        due("in weeks to come", x.week(1, 519, 519, 6), 1);
    }

    // Promise 6
    private static void back() {
        FrameRents x = town();
        due("not hired", x.back(0), false);
        due("own", x.back(2), false);
        due("no such", x.back(3), false);
        due("-1", x.back(-1), false);
        x.hire(0, 0);
        Check.goes(x, 2);
        due("back", x.back(0), true);
        due("back again", x.back(0), false);
        due("had it", x.week(0, 1, 2, 6), 0);
        due("has it no more", x.week(0, 2, 2, 6), NONE);
        due("nor later", x.week(0, 9, 2, 6), NONE);
        due("to another", x.hire(0, 1), true);
        due("the same week's end", x.week(0, 2, 2, 6), 1);
        due("what was stays", x.week(0, 1, 2, 6), 0);
    }

    // Promise 7
    private static void feed() {
        FrameRents x = new FrameRents();
        for (int i = 1; i <= 10; i++) due("feed", x.feed(-1, 2, 3, 4, 5), 20 * i);
        due("an 11th", x.feed(1, 2, 3, 4, 5), NONE);
        due("it is full", x.count(10), 200);
        FrameRents y = townWith("W=g;A=d;B=s;C=n;D=y");
        y.feed(0x01020304, -1, 0x7fffffff, 0x80000000, 256);
        y.feed(0, 0, 0, 0, 0);
        due("highest first", y.worth(0, 22), 0x01020304);
        due("below 0", Check.worth(y, 0, 'A', 0, -1), -1);
        due("the most", Check.worth(y, 0, 'B', 0, 0, Integer.MAX_VALUE), Integer.MAX_VALUE);
        due("the least", Check.worth(y, 0, 'C', 0, 0, 0, Integer.MIN_VALUE), Integer.MIN_VALUE);
        due("256", Check.worth(y, 0, 'D', 0, 0, 0, 0, 256), 256);
    }

    // Promise 8
    private static void listTexts() {
        FrameRents x = new FrameRents();
        due("one", Check.list(x, "W=1"), 0);
        due("ten", Check.list(x, "A=1;B=1;C=1;D=1;E=1;F=1;G=1;H=1;I=1;J=1"), 1);
        due("ten formulas", x.count(41), 10);
        due("later letters", Check.list(x, "A=B;B=C;C=1;W=A"), 2);
        due("all facts", Check.list(x, "W=g+d+s+n+y+f+h+i+o+w"), 3);
        StringBuilder most = new StringBuilder("W=1");
        for (int i = 3; i < 199; i += 2) most.append("+1");
        most.append('1');
        due("200 bytes", most.length(), 200);
        due("200 bytes", Check.list(x, most.toString()), 4);
        due("its worth", Check.worth(x, 4, 'W'), 98 + 11);
        due("six open", Check.list(x, "W=((((((1))))))+((1))"), 5);
        due("six ?", Check.list(x, "W=1<2?1<2?1<2?1<2?1<2?1<2?1:2:3:4:5:6:7"), 6);
        due("? that have ended", Check.list(x, "W=(1<2?3:4)+(1<2?(1<2?(1<2?5:6):7):8);A=((((((7))))))"), 7);
        due("their worth", Check.worth(x, 7, 'W'), 8);
        Check.feed(x, 'W', '=', '1', ';');
        due("only the first n", x.list(3), 8);
        due("and all is gone", x.count(10), 0);
        due("a letter without one", Check.list(x, "W=A+Z"), 9);
        due("is worth 0", Check.worth(x, 9, 'W'), 0);
    }

    private static void listFaults() {
        String[] texts = {
            "W=", "W=1;", "=", ";", "w=1", "W 1", "W= 1", "W=1 ", "W==1", "W=+1", "W=-1", "W=1+", "W=1++1", "W=()",
            "W=(1", "W=(1;", "W=1)", "W=a", "W=1<2", "W=1<2?3", "W=1<2?3:", "W=1?2:3", "W=1<2:3?4", "W=1<2<3?4:5",
            "W=1<2?3:4:5", "W=1<2?(3:4)", "W=gd", "W=1g", "W=A1", "W=(1)2", "W=1;;", "W=1;2", "W=1A=2", "1", "WW=1",
            "W=1!", "W=(1)(", "W=1<2?3;A=4"};
        int[] faults = {
            -1002, -1004, -1000, -1000, -1000, -1001, -1002, -1003, -1002, -1002, -1002, -1004, -1004, -1003,
            -1004, -1004, -1003, -1002, -1005, -1007, -1008, -1003, -1005, -1005,
            -1009, -1008, -1003, -1003, -1003, -1005, -1004, -1004, -1003, -1000, -1001,
            -1003, -1005, -1007};
        for (int i = 0; i < texts.length; i++) due("fault of " + texts[i], Check.faultOf(texts[i]), faults[i]);
        due("seven digits", Check.faultOf("W=1234567"), -2008);
        due("seven digits, 0", Check.faultOf("W=0000000"), -2008);
        due("six digits", Check.faultOf("W=999999"), 0);
        due("twice", Check.faultOf("W=1;W=2"), -3004);
        due("twice, and no more", Check.faultOf("W=1;W"), -3004);
        String ten = "A=1;B=1;C=1;D=1;E=1;F=1;G=1;H=1;I=1;J=1;";
        due("an 11th", Check.faultOf(ten + "K=1"), -4040);
        due("an 11th letter alone", Check.faultOf(ten + "K"), -4040);
        due("an 11th that is there", Check.faultOf(ten + "A=1"), -3040);
        due("an 11th that can't stand", Check.faultOf(ten + "k=1"), -1040);
        due("an 11th that is the end", Check.faultOf(ten), -1040);
        due("seven (", Check.faultOf("W=((((((("), -5008);
        due("seven ?", Check.faultOf("W=1<2?1<2?1<2?1<2?1<2?1<2?1<2?"), -5029);
        due("seven ? in second choices", Check.faultOf("W=1<2?1:1<2?1:1<2?1:1<2?1:1<2?1:1<2?1:1<2?1:1"), -5041);
        due("six ? in second choices", Check.faultOf("W=1<2?1:1<2?1:1<2?1:1<2?1:1<2?1:1<2?1:1"), 0);
        due("( and ? together", Check.faultOf("W=(((1<2?(1<2?((1"), -5014);
        due("a ? that can't stand", Check.faultOf("W=((((((1?"), -1009);
        due("a ( that can't stand", Check.faultOf("W=((((((1("), -1009);
        due("a new count in a new formula", Check.faultOf("W=((((((1))))));A=((((((1))))))"), 0);
        due("ring of one", Check.faultOf("W=W"), -6000);
        due("ring behind", Check.faultOf("W=A;A=B;B=A"), -6002 - 2);
        due("ring through a choice", Check.faultOf("A=1;W=1<2?3:W"), -6004);
        due("ring of three", Check.faultOf("A=1;B=C;C=D;D=B"), -6004);
        due("no ring", Check.faultOf("A=B+C;B=C+D;C=D;D=1"), 0);
        due("another fault first", Check.faultOf("W=W;A="), -1006);
        FrameRents x = new FrameRents();
        Check.feed(x, 'W', '=', 200);
        due("a byte above 127", x.list(3), -1002);
        due("the tape is gone with a fault", x.count(10), 0);
        due("no list", x.count(4), 0);
        due("a list after faults", Check.list(x, "W=7"), 0);
        due("as it should be", Check.worth(x, 0, 'W'), 7);
    }

    private static void listRefused() {
        FrameRents x = new FrameRents();
        Check.feed(x, Check.bytesOf("W=1"));
        due("n 0", x.list(0), NONE);
        due("n 201", x.list(201), NONE);
        due("n -1", x.list(-1), NONE);
        due("not so many", x.list(21), NONE);
        due("the tape stays", x.count(10), 20);
        due("it is good still", x.list(3), 0);
        for (int l = 1; l < 10; l++) due("list", Check.list(x, "W=1"), l);
        due("an 11th", Check.list(x, "W=1"), NONE);
        due("the tape stays", x.count(10), 20);
        due("an 11th, in spite of a fault", x.list(1), NONE);
        due("ten", x.count(4), 10);
    }

    // Promise 9
    private static void act() {
        FrameRents x = townWith("W=100;R=50;A=33");
        x.uses(0, 0);
        x.hire(0, 0);
        due("rent", x.week(0, 0, 0, 1), 50);
        due("an act", Check.act(x, 0, 0, "R_40"), 0);
        due("no more than", x.week(0, 0, 0, 1), 40);
        due("a second", Check.act(x, 0, 519, "R^A+10"), 1);
        due("no less than, behind the other", x.week(0, 0, 0, 1), 43);
        due("a third", Check.act(x, 1, 3, "W_R"), 2);
        due("not in force yet", x.week(0, 0, 0, 0), 100);
        due("letters unbounded, from", x.week(0, 1, 0, 0), 50);
        due("to", x.week(0, 3, 0, 0), 50);
        due("not in force any more", x.week(0, 4, 0, 0), 100);
        due("only the second", x.week(0, 4, 0, 1), 50);
        String sixty = "C^0000001".substring(0, 2) + "1+1+1+1+1+1+1+1+1+1+1+1+1+1+1+1+1+1+1+1+1+1+1+1+1+1+1+1+11";
        due("sixty bytes", sixty.length(), 60);
        due("sixty bytes", Check.act(x, 0, 0, sixty), 3);
        due("C", x.week(0, 0, 0, 2), 28 + 11);
        for (int a = 4; a < 10; a++) due("act", Check.act(x, 519, 519, "T_1"), a);
        due("an 11th", Check.act(x, 0, 0, "T_1"), NONE);
        due("the tape stays", x.count(10), 20);
        due("ten", x.count(5), 10);
    }

    private static void actFaults() {
        FrameRents x = new FrameRents();
        String[] texts = {"D_1", "w_1", "R", "R=1", "R-1", "R_", "R_1;", "R_1;C_2", "R_1234567", "R_(((((((", "R_1)", "_1", "R_1:2"};
        int[] faults = {-1000, -1000, -1001, -1001, -1001, -1002, -1003, -1003, -2008, -5008, -1003, -1000, -1003};
        for (int i = 0; i < texts.length; i++) {
            due("fault of " + texts[i], Check.act(x, 0, 1, texts[i]), faults[i]);
            due("the tape is gone", x.count(10), 0);
        }
        Check.feed(x, Check.bytesOf("R_1"));
        due("from -1", x.act(-1, 0, 3), NONE);
        due("to 520", x.act(0, 520, 3), NONE);
        due("from behind to", x.act(1, 0, 3), NONE);
        due("n 0", x.act(0, 0, 0), NONE);
        due("n 61", x.act(0, 0, 61), NONE);
        due("not so many", x.act(0, 0, 21), NONE);
        due("the tape stays", x.count(10), 20);
        due("no act", x.count(5), 0);
        due("it is good still", x.act(519, 519, 3), 0);
        due("bounds itself by the list's own", Check.act(x, 0, 0, "W^W*2"), 1);
        String more = "R^" + "1+".repeat(29) + "1";
        Check.feed(x, Check.bytesOf(more));
        due("61 bytes", more.length(), 61);
        due("n 61, and so many are there", x.act(0, 0, 61), NONE);
        due("the tape stays", x.count(10), 80);
    }

    // Promise 10
    private static void uses() {
        FrameRents x = townWith("W=1", "W=2");
        due("no such master", x.uses(3, 0), false);
        due("master -1", x.uses(NONE, 0), false);
        due("no such list", x.uses(0, 2), false);
        due("list NONE", x.uses(0, NONE), false);
        due("uses", x.uses(0, 0), true);
        due("it is", x.uses(0, 0), false);
        due("another one's", x.uses(2, 0), true);
        due("another", x.uses(0, 1), true);
        due("the first again", x.uses(0, 0), true);
        Check.goes(x, 1);
        due("it is still", x.uses(0, 0), false);
        due("another now", x.uses(0, 1), true);
        due("then", x.listOf(0, 0), 0);
        due("now", x.listOf(0, 1), 1);
    }

    // Promise 11
    private static void listOf() {
        FrameRents x = townWith("W=1");
        due("none", x.listOf(0, 0), NONE);
        Check.goes(x, 3);
        x.uses(0, 0);
        due("before", x.listOf(0, 2), NONE);
        due("from then", x.listOf(0, 3), 0);
        due("later", x.listOf(0, 519), 0);
        due("week 520", x.listOf(0, 520), NONE);
        due("week -1", x.listOf(0, -1), NONE);
        due("no such master", x.listOf(3, 3), NONE);
        due("master -1", x.listOf(-1, 3), NONE);
        due("another master", x.listOf(1, 3), NONE);
    }

    // Promise 12
    private static void worth() {
        FrameRents x = townWith("W=g*999999;A=n;B=y;C=f;D=h;E=i;F=o;G=w;R=0-5");
        due("below 0, unbounded", Check.worth(x, 0, 'R'), -5);
        int[] facts = {1, 2, 3, 4, 5, 6, 7, 8, 9, 10};
        due("the tape was gone", x.worth(0, 22), 0);
        char[] letters = {'A', 'B', 'C', 'D', 'E', 'F', 'G'};
        for (int i = 0; i < letters.length; i++) due("fact " + letters[i], Check.worth(x, 0, letters[i], facts), i + 4);
        x = townWith("G=g;D=d;S=s");
        due("g", Check.worth(x, 0, 'G', facts), 1);
        due("d", Check.worth(x, 0, 'D', facts), 2);
        due("s", Check.worth(x, 0, 'S', facts), 3);
        due("no such letter", Check.worth(x, 0, 'Z', facts), 0);
        due("the tape is gone", x.count(10), 0);
        x.feed(1, 2, 3, 4, 5);
        due("not so many", x.worth(0, 3), 0);
        due("the tape stays", x.count(10), 20);
        x.feed(1, 2, 3, 4, 5);
        due("list 1", x.worth(1, 3), 0);
        due("list -1", x.worth(-1, 3), 0);
        due("x 26", x.worth(0, 26), 0);
        due("x -1", x.worth(0, -1), 0);
        due("the tape stays", x.count(10), 40);
        due("now", x.worth(0, 3), 2);
        due("the tape is gone", x.count(10), 0);
        Check.act(x, 0, 519, "W_1");
        due("acts don't matter", Check.list(x, "W=5"), 1);
        due("acts don't matter", Check.worth(x, 1, 'W'), 5);
    }

    private static void reckoning() {
        String[] sums = {
            "7-2-1", "7-(2-1)", "100/7*7", "7*100/7", "17%5%2", "2+3*4", "(2+3)*4", "1+2_5^4", "5_3*2", "2*5_3", "9_4^6",
            "0-7/2", "(0-7)/2", "(0-7)%3", "7%(0-3)", "5/0", "5%0", "5/(3-3)+1", "1<2?3:4", "2<1?3:4", "1>2?3:4", "2>1?3:4",
            "2=2?3:4", "1=2?3:4", "1<2?2<1?5:6:7", "2<1?5:1<2?6:7", "1+1=2?8*2:9", "1<2?3:4+100", "(1<2?3:4)+100",
            "1=1?5/0:1", "999999", "000012", "5^7_6", "5_7^6"};
        long[] worths = {
            4, 6, 98, 100, 0, 14, 20, 5, 6, 6, 6,
            -3, -3, -1, 1, 0, 0, 1, 3, 4, 4, 3,
            3, 4, 6, 6, 16, 3, 103,
            0, 999999, 12, 6, 6};
        for (int i = 0; i < sums.length; i++) due("worth of " + sums[i], Check.worthOf(sums[i]), worths[i]);
        due("wraps", Check.worthOf("g*g*g", 2000000000), 2000000000L * 2000000000L * 2000000000L);
        due("the least", Check.worthOf("g*g*2*d/(0-1)", Integer.MIN_VALUE, 1), Long.MIN_VALUE);
        due("the least left", Check.worthOf("g*g*2*d%(0-1)", Integer.MIN_VALUE, 1), 0);
        due("the least is least", Check.worthOf("g*g*2<0?1:2", Integer.MIN_VALUE), 1);
        FrameRents x = new FrameRents();
        Check.list(x, "A=B*2+C;B=C+d;C=D^3;W=A+B+C+D;D=E;E=1");
        due("formulas of formulas", Check.worth(x, 0, 'W', 0, 4), 17 + 7 + 3 + 1);
        FrameRents y = new FrameRents();
        Check.list(y, "A=C+D+E;B=A;C=1;D=2;E=3;W=B");
        due("a short one that needs a long one", Check.worth(y, 0, 'W'), 6);
        Check.list(x, "J=I+I+I+I+I+I+I;I=H+H+H+H+H+H+H;H=G+G+G+G+G+G+G;G=F+F+F+F+F+F+F;F=E+E+E+E+E+E+E;E=D+D+D+D+D+D+D;"
            + "D=C+C+C+C+C+C+C;C=B+B+B+B+B+B+B;B=A+A+A+A+A+A+A;A=d");
        due("formulas that branch ten deep", Check.worth(x, 1, 'J', 0, 1), 40353607);
    }

    // Promise 13
    private static void entry() {
        FrameRents x = town();
        due("first", x.entry(0, 0, 0, 0, 0, 0, 0), 0);
        due("the most", x.entry(2, 0, 9, 99, 999, 9999, 9999), 1);
        due("frame 3", x.entry(3, 0, 0, 0, 0, 0, 0), NONE);
        due("frame -1", x.entry(-1, 0, 0, 0, 0, 0, 0), NONE);
        due("week 1", x.entry(0, 1, 0, 0, 0, 0, 0), NONE);
        due("week -1", x.entry(0, -1, 0, 0, 0, 0, 0), NONE);
        int[][] wrong = {{10, 0, 0, 0, 0}, {0, 100, 0, 0, 0}, {0, 0, 1000, 0, 0}, {0, 0, 0, 10000, 0}, {0, 0, 0, 0, 10000}};
        for (int i = 0; i < 5; i++) {
            int[] w = wrong[i];
            due("above " + i, x.entry(0, 0, w[0], w[1], w[2], w[3], w[4]), NONE);
            int[] below = new int[5];
            below[i] = -1;
            due("below " + i, x.entry(0, 0, below[0], below[1], below[2], below[3], below[4]), NONE);
        }
        due("two", x.count(6), 2);
        Check.goes(x, 1);
        due("a week ago", x.entry(0, 0, 1, 1, 1, 1, 1), 2);
        for (int e = 3; e < 300; e++) due("entry", x.entry(1, 1, 1, 1, 1, 1, 1), e);
        due("a 301st", x.entry(1, 1, 1, 1, 1, 1, 1), NONE);
        due("300", x.count(6), 300);
        due("the latest", x.week(1, 1, 1, 7), 299);
    }

    // Promise 14
    private static void week() {
        FrameRents x = townWith("W=d*100;R=30;C=7;T=d*25");
        x.uses(0, 0);
        x.uses(1, 0);
        x.hire(0, 0);
        x.entry(0, 0, 1, 4, 0, 0, 0);
        long[] due = {400, 30, 7, 100, 363, 0, 0, 0};
        for (int what = 0; what < 8; what++) due("what " + what, x.week(0, 0, 0, what), due[what]);
        due("what 8", x.week(0, 0, 0, 8), NONE);
        due("what -1", x.week(0, 0, 0, -1), NONE);
        due("frame 3", x.week(3, 0, 0, 0), NONE);
        due("frame -1", x.week(-1, 0, 0, 0), NONE);
        due("week 520", x.week(0, 520, 0, 0), NONE);
        due("week -1", x.week(0, -1, 0, 0), NONE);
        due("t 520", x.week(0, 0, 520, 0), NONE);
        due("t -1", x.week(0, 0, -1, 0), NONE);
        x.entry(1, 0, 1, 4, 0, 0, 0);
        long[] unhired = {0, 0, 0, 0, 0, 0, NONE, 1};
        for (int what = 0; what < 8; what++) due("nobody has it, what " + what, x.week(1, 0, 0, what), unhired[what]);
        x.entry(2, 0, 1, 4, 0, 0, 0);
        due("own: no rent", x.week(2, 0, 0, 1), 0);
        due("own: net", x.week(2, 0, 0, 4), 393);
        due("a week to come", x.week(0, 519, 519, 1), 30);
        due("has nothing", x.week(0, 519, 519, 7), NONE);
        x.hire(1, 0);
        due("a master without a list", x.week(1, 0, 0, 0), 0);
        Check.act(x, 0, 0, "W^12");
        due("whose 0 is bounded, too", x.week(1, 0, 0, 0), 12);
        Check.act(x, 0, 0, "R^12");
        due("own: no rent whatever the act", x.week(2, 0, 0, 1), 0);
    }

    private static void weekFacts() {
        FrameRents x = townWith("W=g*100000*10+d*10000+s*1000+n;C=y;R=f*100+h*10+o;T=w");
        x.uses(0, 0);
        x.uses(1, 0);
        x.uses(2, 0);
        Check.goes(x, 3);
        x.hire(0, 1);
        x.hire(1, 0);
        x.entry(0, 3, 7, 12, 345, 67, 8);
        due("g d s n", x.week(0, 3, 3, 0), 20127345);
        due("y", x.week(0, 3, 3, 2), 67);
        due("f h o", x.week(0, 3, 3, 1), 250);
        due("of a bagman", x.week(1, 3, 3, 1), 131);
        due("w", x.week(0, 3, 3, 3), 3);
        due("without an entry", x.week(1, 3, 3, 0), 30000000);
        due("truck no more than net", x.week(1, 3, 3, 3), 3);
        x = townWith("W=f*100+h*10+o");
        x.uses(1, 0);
        x.hire(0, 1);
        Check.goes(x, 1);
        x.back(0);
        due("own: f h o then", x.week(2, 0, 1, 0), 252);
        due("own: f h o now", x.week(2, 1, 1, 0), 152);
    }

    private static void weekAsKnown() {
        FrameRents x = townWith("W=d*10");
        x.uses(0, 0);
        x.hire(0, 0);
        x.entry(0, 0, 0, 1, 0, 0, 0);
        x.entry(0, 0, 0, 2, 0, 0, 0);
        Check.goes(x, 2);
        x.entry(0, 0, 0, 3, 0, 0, 0);
        x.entry(0, 1, 0, 4, 0, 0, 0);
        due("the later one", x.week(0, 0, 0, 0), 20);
        due("at 1", x.week(0, 0, 1, 0), 20);
        due("at 2", x.week(0, 0, 2, 0), 30);
        due("which", x.week(0, 0, 2, 7), 2);
        due("not known at 1", x.week(0, 1, 1, 7), NONE);
        due("known at 2", x.week(0, 1, 2, 0), 40);
        due("known later", x.week(0, 1, 519, 0), 40);
        due("known before the week", x.week(0, 1, 0, 0), 0);
        Check.list(x, "W=d");
        x.uses(0, 1);
        due("the list of that week", x.week(0, 1, 2, 0), 40);
    }

    private static void weekIdle() {
        FrameRents x = townWith("W=i");
        x.uses(0, 0);
        Check.goes(x, 2);
        x.hire(0, 0);
        Check.goes(x, 3);
        due("since it was hired", x.week(0, 5, 5, 5), 4);
        due("as a fact", x.week(0, 5, 5, 0), 4);
        due("at first", x.week(0, 2, 5, 5), 1);
        due("nobody's", x.week(0, 1, 5, 5), 0);
        x.entry(0, 3, 0, 1, 0, 0, 0);
        due("since the last dozens", x.week(0, 5, 5, 5), 2);
        due("has dozens", x.week(0, 3, 5, 5), 0);
        due("not known then", x.week(0, 5, 4, 5), 4);
        x.entry(0, 3, 0, 0, 9, 9, 9);
        due("an entry without dozens", x.week(0, 5, 5, 5), 4);
        x.back(0);
        x.hire(0, 1);
        due("another knitter", x.week(0, 5, 5, 5), 1);
        due("the one before", x.week(0, 4, 5, 5), 3);
        due("weeks to come", x.week(0, 9, 5, 5), 5);
        due("one's own, always", x.week(2, 5, 5, 5), 6);
    }

    private static void weekTruck() {
        FrameRents x = townWith("W=d*10;R=15;T=100", "W=0-5;R=999999*999999;C=100000*10000;T=0-1");
        x.uses(0, 0);
        x.uses(2, 1);
        x.hire(0, 0);
        x.hire(1, 0);
        due("net below 0", x.week(0, 0, 0, 4), -15);
        due("no truck then", x.week(0, 0, 0, 3), 0);
        x.entry(0, 0, 0, 5, 0, 0, 0);
        due("no more than net", x.week(0, 0, 0, 3), 35);
        x.entry(0, 0, 0, 50, 0, 0, 0);
        due("all of it", x.week(0, 0, 0, 3), 100);
        due("W below 0", x.week(1, 0, 0, 0), 0);
        due("R above the most", x.week(1, 0, 0, 1), 1000000000);
        due("C the most", x.week(1, 0, 0, 2), 1000000000);
        due("T below 0", x.week(1, 0, 0, 3), 0);
        due("net", x.week(1, 0, 0, 4), -2000000000);
        Check.act(x, 0, 0, "W^W+7");
        due("an act has what is below 0", x.week(1, 0, 0, 0), 2);
    }

    // Promise 15
    private static void earned() {
        FrameRents x = townWith("W=d*100;R=10;T=d*50");
        x.uses(0, 0);
        x.uses(1, 0);
        x.uses(2, 0);
        x.hire(0, 1);
        x.hire(1, 1);
        x.entry(0, 0, 0, 3, 0, 0, 0);
        x.entry(2, 0, 0, 1, 0, 0, 0);
        due("three frames", x.earned(1, 0, 0, false), 290 - 10 + 100);
        x.number(10, 50);
        due("truck at the shop's price", x.earned(1, 0, 0, false), 140 + 100 - 10 + 100);
        x.number(11, 200);
        due("of that master", x.earned(1, 0, 0, false), 240 - 10 + 50 + 16);
        due("nothing", x.earned(0, 0, 0, false), 0);
        due("no scale", x.earned(0, 0, 0, true), 0);
        x.number(0, 60);
        due("all of the scale", x.earned(0, 0, 0, true), 180);
        due("the rest of the scale", x.earned(1, 0, 0, true), 300 - 296);
        x.number(0, 59);
        due("enough", x.earned(1, 0, 0, true), 0);
        Check.goes(x, 1);
        due("below 0", x.earned(1, 1, 1, false), -20);
        due("more than the scale then", x.earned(1, 1, 1, true), 295 + 20);
        due("not known before", x.earned(1, 1, 0, false), -20);
        x.back(0);
        due("had it then", x.earned(1, 0, 1, false), 296);
        due("no such knitter", x.earned(2, 0, 0, true), 0);
        due("knitter -1", x.earned(-1, 0, 0, true), 0);
        due("week 520", x.earned(0, 520, 0, true), 0);
        due("week -1", x.earned(0, -1, 0, true), 0);
        due("t 520", x.earned(0, 0, 520, true), 0);
        due("t -1", x.earned(0, 0, -1, true), 0);
        due("a week to come", x.earned(1, 519, 519, false), -10);
    }

    // Promise 16
    private static void number() {
        FrameRents x = town();
        due("scale 0", x.number(0, 0), true);
        due("scale 1000", x.number(0, 1000), true);
        due("scale 1001", x.number(0, 1001), false);
        due("scale -1", x.number(0, -1), false);
        due("it stays", x.earned(0, 0, 0, true), 3000);
        due("waste 0", x.number(1, 0), true);
        due("waste 100", x.number(1, 100), true);
        due("waste 101", x.number(1, 101), false);
        due("waste -1", x.number(1, -1), false);
        due("strikes 1000", x.number(2, 1000), true);
        due("strikes 1001", x.number(2, 1001), false);
        due("strikes -1", x.number(2, -1), false);
        due("strikes 0", x.number(2, 0), true);
        due("what 3", x.number(3, 0), false);
        due("what 9", x.number(9, 0), false);
        due("what -1", x.number(-1, 0), false);
        due("over 0", x.number(10, 0), true);
        due("over 200", x.number(12, 200), true);
        due("over 201", x.number(12, 201), false);
        due("over -1", x.number(12, -1), false);
        due("no such master", x.number(13, 0), false);
        due("what far", x.number(Integer.MAX_VALUE, 0), false);
        due("what far below", x.number(Integer.MIN_VALUE, 0), false);
    }

    // Promise 17
    private static void amiss() {
        FrameRents x = town();
        int[][] yarnHose = {{100, 95}, {100, 94}, {100, 101}, {0, 0}, {0, 1}, {101, 95}, {101, 94}, {9999, 9499}, {9999, 9498}, {1, 0}};
        int[] due = {0, 1, 1, 0, 1, 0, 1, 0, 1, 0};
        for (int e = 0; e < due.length; e++) {
            x.entry(0, 0, 0, 0, 0, yarnHose[e][0], yarnHose[e][1]);
            due("amiss " + e, x.amiss(e), due[e]);
        }
        x.number(1, 100);
        due("all may be waste", x.amiss(1), 0);
        due("but not more hose than yarn", x.amiss(2), 1);
        x.number(1, 0);
        due("nothing may be waste", x.amiss(0), 1);
        due("nothing is", x.amiss(3), 0);
        due("no such entry", x.amiss(10), NONE);
        due("entry -1", x.amiss(-1), NONE);
    }

    // Promise 18
    private static void tells() {
        FrameRents x = town();
        due("a house", x.tells(0, 0, 0, 1), false);
        due("no such one", x.tells(3, 0, 0, 1), false);
        due("-1", x.tells(-1, 0, 0, 1), false);
        due("a week to come", x.tells(2, 1, 0, 1), false);
        due("week -1", x.tells(2, -1, 0, 1), false);
        due("shape 10", x.tells(2, 0, 10, 1), false);
        due("shape -1", x.tells(2, 0, -1, 1), false);
        due("10001 dozens", x.tells(2, 0, 0, 10001), false);
        due("-1 dozens", x.tells(2, 0, 0, -1), false);
        due("none told", x.count(11), 0);
        due("10000 dozens", x.tells(2, 0, 9, 10000), true);
        x.master(1);
        for (int i = 1; i < 200; i++) due("tells", x.tells(2 + i % 2, 0, i % 10, i), true);
        due("a 201st", x.tells(2, 0, 0, 1), false);
        due("a 201st, another's", x.tells(3, 0, 0, 1), false);
        due("200", x.count(11), 200);
        due("the latest counts", x.differs(2, 0, 2), 190);
    }

    // Promise 19
    private static void differs() {
        FrameRents x = town();
        x.frame(10, 2, 0);
        due("nothing", x.differs(2, 0, 0), NONE);
        x.entry(1, 0, 4, 5, 0, 0, 0);
        x.entry(3, 0, 4, 2, 0, 0, 0);
        x.entry(0, 0, 4, 50, 0, 0, 0);
        long[] due = {0, 4, 0, 7};
        for (int what = 0; what < 4; what++) due("what " + what, x.differs(2, 0, what), due[what]);
        due("what 4", x.differs(2, 0, 4), NONE);
        due("what -1", x.differs(2, 0, -1), NONE);
        due("i -1", x.differs(2, -1, 0), NONE);
        due("i 1", x.differs(2, 1, 0), NONE);
        due("a house", x.differs(0, 0, 0), NONE);
        due("no such one", x.differs(3, 0, 0), NONE);
        x.tells(2, 0, 4, 7);
        due("as told", x.differs(2, 0, 0), NONE);
        Check.goes(x, 1);
        x.tells(2, 1, 0, 3);
        x.tells(2, 1, 4, 1);
        x.tells(2, 0, 5, 2);
        x.entry(1, 0, 6, 5, 0, 0, 0);
        int[][] all = {{0, 4, 7, 2}, {0, 5, 2, 0}, {0, 6, 0, 5}, {1, 0, 3, 0}, {1, 4, 1, 0}};
        for (int i = 0; i < all.length; i++) {
            for (int what = 0; what < 4; what++) due("differs " + i + " " + what, x.differs(2, i, what), all[i][what]);
        }
        due("no more", x.differs(2, 5, 0), NONE);
        x.tells(2, 1, 0, 0);
        due("told otherwise", x.differs(2, 3, 1), 4);
    }

    // Promise 20
    private static void spread() {
        FrameRents x = townWith("W=g*d;R=d*d;C=d>0?3:0");
        x.frame(12, 0, NONE);
        x.frame(14, 0, 0);
        x.uses(0, 0);
        due("nothing is hired but one's own", x.spread(0, 0, 24, 0, 0, 10), 240 - 14 * 24 + 3);
        due("too much for it", x.spread(0, 0, 25, 0, 0, 10), NO_GAIN);
        x.hire(0, 0);
        x.hire(3, 1);
        // frames 0 (gauge 20), 3 (12), 4 (14, own): rent brings in d*d but for the own one
        due("all on one", x.spread(0, 0, 10, 0, 0, 0), 100 - 120 + 3);
        due("share", x.share(3), 10);
        due("dozens 61", x.spread(0, 0, 61, 0, 0, 0), NO_GAIN);
        due("dozens -1", x.spread(0, 0, -1, 0, 0, 0), NO_GAIN);
        due("dozens 60", x.spread(0, 0, 60, 0, 0, 0), 576 * 2 - 480 - 288 - 14 * 12 + 9);
        due("shape 10", x.spread(0, 10, 1, 0, 0, 0), NO_GAIN);
        due("shape -1", x.spread(0, -1, 1, 0, 0, 0), NO_GAIN);
        due("narrowings 41", x.spread(0, 0, 1, 41, 0, 0), NO_GAIN);
        due("narrowings -1", x.spread(0, 0, 1, -1, 0, 0), NO_GAIN);
        due("yarn 100", x.spread(0, 0, 1, 0, 100, 0), NO_GAIN);
        due("yarn -1", x.spread(0, 0, 1, 0, -1, 0), NO_GAIN);
        due("price 100001", x.spread(0, 0, 1, 0, 0, 100001), NO_GAIN);
        due("price -1", x.spread(0, 0, 1, 0, 0, -1), NO_GAIN);
        due("no such master", x.spread(3, 0, 1, 0, 0, 0), NO_GAIN);
        due("master -1", x.spread(-1, 0, 1, 0, 0, 0), NO_GAIN);
        due("the most", x.spread(0, 9, 1, 40, 99, 100000), 100000 - 12 + 1 + 3);
        due("no frames, nothing to spread", x.spread(2, 0, 0, 0, 0, 0), 0);
        due("no frames", x.spread(2, 0, 1, 0, 0, 0), NO_GAIN);
        x.back(0);
        x.back(3);
        due("given back", x.spread(0, 0, 25, 0, 0, 0), NO_GAIN);
    }

    private static void spreadFacts() {
        FrameRents x = townWith("W=0;R=n*100+y;C=i*10000+s*500000*2;T=9");
        x.uses(0, 0);
        x.frame(20, 0, NONE);
        Check.goes(x, 1);
        x.hire(0, 0);
        x.hire(3, 0);
        Check.goes(x, 2);
        x.entry(0, 3, 1, 9, 1, 1, 1);
        // both frames idle since week 1; this week's entry does not count
        due("one has nothing", x.spread(0, 2, 1, 3, 4, 5), 5 + 304 + 30000 + 4000000);
        due("the least row", x.share(0), 0);
        due("both idle", x.spread(0, 2, 0, 3, 4, 5), 60000 + 4000000);
        x.entry(3, 2, 1, 9, 1, 1, 1);
        due("idle since another week", x.spread(0, 0, 0, 0, 0, 0), 40000);
        due("the idle one is left idle", x.spread(0, 0, 1, 0, 0, 0), 30000);
        due("the other gets it", x.share(3), 1);
        x.back(0);
        x.hire(0, 0);
        due("given back and hired again in a week", x.spread(0, 0, 0, 0, 0, 0), 40000);
        x.back(0);
        x.knitter(1);
        x.hire(0, 2);
        due("idle by another knitter", x.spread(0, 0, 0, 0, 0, 0), 20000);
        x = new FrameRents();
        x.master(NONE);
        x.knitter(1);
        for (int f = 0; f < 12; f++) {
            x.frame(10 + f, 0, NONE);
            if (f != 1) x.hire(f, 0);
        }
        Check.list(x, "W=100-g;R=0;C=f");
        x.uses(0, 0);
        due("ten frames at most", x.spread(0, 0, 60, 0, 0, 1), 60 - (10 * 100 - 154) + 10 * 11);
        for (int f = 0; f < 11; f++) due("share of " + f, x.share(f), f == 8 ? 12 : f == 9 || f == 10 ? 24 : 0);
        due("the 11th that is hired", x.share(11), 0);
    }

    // Promise 21
    private static void share() {
        FrameRents x = townWith("W=d*g;R=0;C=0");
        x.uses(0, 0);
        x.frame(20, 0, NONE);
        x.frame(20, 0, NONE);
        x.hire(0, 0);
        x.hire(3, 0);
        x.hire(4, 1);
        due("none found", x.share(0), 0);
        due("a tie", x.spread(0, 0, 30, 0, 0, 20), 0);
        due("the least row, first", x.share(0), 0);
        due("second", x.share(3), 6);
        due("third", x.share(4), 24);
        due("another's", x.share(1), 0);
        due("no such frame", x.share(5), 0);
        due("16", x.share(16), 0);
        due("-1", x.share(-1), 0);
        x.spread(0, 0, 61, 0, 0, 0);
        due("refused: it stays", x.share(3), 6);
        x.back(0);
        x.back(3);
        due("can't be", x.spread(0, 0, 30, 0, 0, 0), NO_GAIN);
        due("it stays", x.share(3), 6);
        due("found", x.spread(0, 0, 3, 0, 0, 0), -60);
        due("gone", x.share(3), 0);
        due("new", x.share(4), 3);
    }

    // Promise 22
    private static void judge() {
        FrameRents x = townWith("W=d*d*10;R=0;C=0");
        x.uses(0, 0);
        x.frame(20, 0, NONE);
        x.hire(0, 0);
        x.hire(3, 0);
        Check.feed(x, 2, 1);
        due("no order", x.judge(2), NO_GAIN);
        due("the tape stays", x.count(10), 20);
        due("an order that is refused", x.spread(0, 0, 61, 0, 0, 0), NO_GAIN);
        due("is no order", x.judge(2), NO_GAIN);
        due("the tape stays", x.count(10), 20);
        due("spread", x.spread(0, 0, 3, 0, 0, 100), 300 - 50);
        due("share", x.share(0), 1);
        due("n below 0", x.judge(-1), NO_GAIN);
        due("not so many", x.judge(21), NO_GAIN);
        due("the tape stays", x.count(10), 20);
        due("a row", x.judge(2), 250);
        due("the tape is gone", x.count(10), 0);
        int[][] rows = {{0, 3}, {3, 0}, {1, 1}, {25, 0}, {254, 5}, {1, 2, 0}, {3}};
        long[] gains = {210, 210, NO_GAIN, NO_GAIN, NO_GAIN, NO_GAIN, NO_GAIN};
        for (int i = 0; i < rows.length; i++) {
            Check.feed(x, rows[i]);
            due("row " + i, x.judge(rows[i].length), gains[i]);
            due("the tape is gone", x.count(10), 0);
        }
        Check.feed(x, 0);
        due("n 0", x.judge(0), NO_GAIN);
        due("the tape is gone", x.count(10), 0);
        due("an order that can't be", x.spread(0, 0, 49, 0, 0, 100), NO_GAIN);
        Check.feed(x, 2, 1);
        due("is told", x.judge(2), NO_GAIN);
        due("of the one before nothing but shares", x.share(0), 1);
        x.spread(0, 0, 48, 0, 0, 100);
        Check.feed(x, 24, 24);
        due("all", x.judge(2), 4800 - 2 * 5760);
        x.spread(2, 0, 0, 0, 0, 100);
        due("a row of none", x.judge(0), 0);
    }

    // Promise 23
    private static void beside() {
        FrameRents x = townWith("W=d*100;R=30;C=7", "W=d*90+w;R=20;C=i", "W=0;R=5");
        x.uses(0, 0);
        x.hire(0, 0);
        x.frame(10, 0, 1);
        x.entry(0, 0, 0, 2, 0, 0, 0);
        Check.goes(x, 2);
        x.entry(0, 2, 0, 1, 0, 0, 0);
        due("its own", x.beside(0, 0, 0, 2), 300 - 90 - 21 - 21);
        due("its own as week by week", weekByWeek(x), 300 - 90 - 21 - 21);
        due("another", x.beside(0, 1, 0, 2), 270 + 3 - 60 - 1 + 3 - 6);
        due("one week", x.beside(0, 1, 1, 1), 1 - 20 - 1 + 1 - 2);
        Check.act(x, 2, 2, "R_1");
        due("acts as they are", x.beside(0, 2, 1, 2), -5 - 1);
        x.back(0);
        due("not at the end of the week", x.beside(0, 2, 1, 2), -5);
        due("another master's", x.beside(2, 1, 0, 2), 0);
        due("without frames", x.beside(1, 2, 0, 2), 0);
        due("weeks to come", x.beside(0, 0, 0, 3), NO_GAIN);
        due("from -1", x.beside(0, 0, -1, 2), NO_GAIN);
        due("from behind to", x.beside(0, 0, 2, 1), NO_GAIN);
        due("no such list", x.beside(0, 3, 0, 2), NO_GAIN);
        due("list NONE", x.beside(0, NONE, 0, 2), NO_GAIN);
        due("no such master", x.beside(3, 0, 0, 2), NO_GAIN);
        due("master -1", x.beside(-1, 0, 0, 2), NO_GAIN);
    }

    private static long weekByWeek(FrameRents x) {
        long all = 0;
        for (int week = 0; week < 3; week++) all += x.week(0, week, 2, 4) + x.week(3, week, 2, 4);
        return all;
    }

    // Promise 24
    private static void lot() {
        FrameRents x = new FrameRents();
        due("-1", x.lot(-1), NONE);
        due("256", x.lot(256), NONE);
        for (int l = 0; l < 40; l++) due("lot", x.lot(l * 6), l);
        due("a 41st", x.lot(0), NONE);
        due("40", x.count(7), 40);
    }

    // Promise 25
    private static void told() {
        FrameRents x = new FrameRents();
        due("no such lot", x.told(0, 1), false);
        x.lot(255);
        due("-1", x.told(-1, 1), false);
        due("what 3", x.told(0, 3), false);
        due("what -1", x.told(0, -1), false);
        due("not told still", x.is(0), 0);
        due("wrought", x.told(0, 1), true);
        due("wrought", x.is(0), 1);
        due("cut", x.told(0, 2), true);
        due("cut", x.is(0), 2);
        due("no more", x.told(0, 0), true);
        due("no more", x.told(0, 0), true);
        due("no more", x.is(0), 0);
    }

    // Promise 26
    private static void is() {
        FrameRents x = new FrameRents();
        int[] marks = {0, 1, 3, 128, 255, 0};
        for (int m : marks) x.lot(m);
        due("none are told", x.is(0), 0);
        due("no such lot", x.is(6), NONE);
        due("-1", x.is(-1), NONE);
        x.told(4, 2);
        due("the only one", x.is(0), 2);
        x.told(2, 1);
        due("nearer", x.is(0), 1);
        due("nearer to the other", x.is(3), 1);
        x.told(1, 2);
        due("nearest", x.is(0), 2);
        x.told(3, 1);
        due("both", x.is(0), 3);
        x.told(5, 1);
        due("the same marks", x.is(0), 1);
        due("as told", x.is(1), 2);
    }

    // Promise 27
    private static void owes() {
        FrameRents x = town();
        due("itself", x.owes(0, 0, 1), false);
        due("no such master", x.owes(0, 3, 1), false);
        due("no such master", x.owes(5, 0, 1), false);
        due("no such knitter", x.owes(0, 8, 1), false);
        due("18", x.owes(0, 18, 1), false);
        due("-1", x.owes(-1, 0, 1), false);
        due("0 pence", x.owes(0, 1, 0), false);
        due("1000001 pence", x.owes(0, 1, 1000001), false);
        due("-5 pence", x.owes(0, 1, -5), false);
        due("nothing is owed", x.clear(), false);
        due("1 penny", x.owes(0, 7, 1), true);
        due("1000000 pence", x.owes(7, 6, 1000000), true);
        due("net", x.net(7), 1 - 1000000);
    }

    // Promise 28
    private static void net() {
        FrameRents x = town();
        x.owes(0, 6, 500);
        x.owes(6, 1, 200);
        x.owes(0, 1, 1);
        due("0", x.net(0), -501);
        due("1", x.net(1), 201);
        due("6", x.net(6), 300);
        due("2", x.net(2), 0);
        due("no such", x.net(3), 0);
        due("no such knitter", x.net(8), 0);
        due("-1", x.net(-1), 0);
        due("18", x.net(18), 0);
        for (int i = 0; i < 400; i++) x.owes(0, 2, 1000000);
        due("added up", x.net(2), 400000000);
    }

    // Promise 29
    private static void payments() {
        FrameRents x = new FrameRents();
        for (int m = 0; m < 6; m++) x.master(NONE);
        for (int k = 0; k < 12; k++) x.knitter(1);
        due("none", x.payments(), 0);
        x.owes(0, 1, 10);
        due("one", x.payments(), 1);
        x.owes(2, 3, 10);
        due("two pairs", x.payments(), 2);
        x.owes(4, 5, 7);
        x.owes(5, 6, 3);
        due("two pairs and three", x.payments(), 4);
        x.owes(7, 8, 3);
        x.owes(9, 7, 1);
        due("and another three", x.payments(), 10 - 4);
        x.owes(8, 10, 2);
        x.owes(11, 10, 3);
        due("twelve", x.payments(), 12 - 5);
        x.owes(12, 13, 1);
        due("fourteen", x.payments(), NONE);
        x.owes(13, 12, 1);
        due("twelve again", x.payments(), 12 - 5);
        x.owes(0, 12, 1);
        due("thirteen", x.payments(), NONE);
        FrameRents y = new FrameRents();
        for (int m = 0; m < 6; m++) y.master(NONE);
        y.owes(0, 3, 2);
        y.owes(0, 4, 3);
        y.owes(1, 4, 1);
        y.owes(1, 5, 6);
        y.owes(2, 3, 5);
        // -5 -7 -5 +7 +4 +6: 1 and 3 part from the others
        due("a group that debts don't show", y.payments(), 4);
    }

    // Promise 30
    private static void clear() {
        FrameRents x = town();
        due("none", x.clear(), false);
        x.owes(0, 1, 5);
        due("paid", x.clear(), true);
        due("none", x.clear(), false);
        due("net", x.net(0), 0);
        due("payments", x.payments(), 0);
        x.owes(0, 1, 5);
        x.owes(1, 0, 5);
        due("even, but debts", x.clear(), true);
        due("none", x.clear(), false);
        x.fund(5);
        due("the fund is another thing", x.clear(), false);
    }

    // Promise 31
    private static void fund() {
        FrameRents x = new FrameRents();
        due("0", x.fund(0), NONE);
        due("-1", x.fund(-1), NONE);
        due("1000001", x.fund(1000001), NONE);
        due("1", x.fund(1), 1);
        due("1000000", x.fund(1000000), 1000001);
        due("count", x.count(8), 1000001);
    }

    // Promise 32
    private static void strike() {
        FrameRents x = town();
        due("no such", x.strike(2, true), false);
        due("-1", x.strike(-1, true), false);
        due("no such", x.strike(2, false), false);
        due("does not", x.strike(0, false), false);
        due("strikes", x.strike(0, true), true);
        due("it is so", x.strike(0, true), false);
        due("another", x.strike(1, true), true);
        due("two", x.count(9), 2);
        due("no more", x.strike(0, false), true);
        due("it is so", x.strike(0, false), false);
        due("one", x.count(9), 1);
    }

    // Promise 33
    private static void lasts() {
        FrameRents x = town();
        x.fund(100);
        due("no strikers", x.lasts(), NONE);
        x.strike(0, true);
        due("nothing a head", x.lasts(), NONE);
        x.number(2, 10);
        due("30 a week", x.lasts(), 3);
        x.strike(1, true);
        due("80 a week", x.lasts(), 1);
        x.number(2, 13);
        due("104 a week", x.lasts(), 0);
        x.strike(0, false);
        x.strike(1, false);
        due("no strikers again", x.lasts(), NONE);
        FrameRents y = new FrameRents();
        y.knitter(1);
        y.strike(0, true);
        y.number(2, 1);
        for (int i = 0; i < 400; i++) y.fund(1000000);
        due("longer than weeks are", y.lasts(), 400000000);
    }

    // Promise 34
    private static void goes() {
        FrameRents x = town();
        due("none strikes", x.goes(), 0);
        due("week 1", x.count(0), 1);
        x.strike(0, true);
        x.strike(1, true);
        x.number(2, 10);
        x.fund(100);
        due("both", x.goes(), 80);
        due("left", x.count(8), 20);
        due("neither", x.goes(), 0);
        x.fund(25);
        due("the first", x.goes(), 30);
        due("left", x.count(8), 15);
        x.fund(15);
        due("just enough", x.goes(), 30);
        due("none left", x.count(8), 0);
        FrameRents y = new FrameRents();
        y.knitter(9);
        y.knitter(1);
        y.strike(0, true);
        y.strike(1, true);
        y.number(2, 10);
        y.fund(50);
        due("not the first, but the next", y.goes(), 10);
        FrameRents z = town();
        for (int i = 0; i < 500; i++) z.goes();
        due("500", z.count(0), 500);
    }

    // Promise 35
    private static void look() {
        FrameRents x = town();
        Check.goes(x, 3);
        x.entry(2, 1, 4, 5, 6, 7, 8);
        int[] due = {2, 1, 4, 5, 6, 7, 8, 3};
        for (int what = 0; what < 8; what++) due("look " + what, x.look(0, what), due[what]);
        due("what 8", x.look(0, 8), NONE);
        due("what -1", x.look(0, -1), NONE);
        due("entry 1", x.look(1, 0), NONE);
        due("entry -1", x.look(-1, 0), NONE);
        x.entry(2, 1, 9, 9, 9, 9, 9);
        due("the earlier one stays to be looked at", x.look(0, 3), 5);
    }

    // Promise 36
    private static void count() {
        FrameRents x = townWith("W=1;R=2", "A=1");
        Check.act(x, 0, 0, "W_1");
        x.goes();
        x.entry(0, 0, 0, 0, 0, 0, 0);
        x.entry(0, 0, 0, 0, 0, 0, 0);
        x.lot(1);
        x.fund(77);
        x.strike(1, true);
        x.feed(0, 0, 0, 0, 0);
        x.tells(2, 0, 0, 0);
        x.tells(2, 0, 0, 0);
        x.hire(1, 0);
        int[] due = {1, 3, 2, 3, 2, 1, 2, 1, 77, 1, 20, 2};
        for (int what = 0; what < 12; what++) due("count " + what, x.count(what), due[what]);
        for (int what = 12; what < 20; what++) due("count " + what, x.count(what), NONE);
        due("frame 0", x.count(20), NONE);
        due("frame 1", x.count(21), 0);
        due("frame 2", x.count(22), 1);
        for (int what = 23; what < 40; what++) due("count " + what, x.count(what), NONE);
        due("list 0", x.count(40), 2);
        due("list 1", x.count(41), 1);
        due("list 2", x.count(42), NONE);
        due("far", x.count(Integer.MAX_VALUE), NONE);
        due("-1", x.count(-1), NONE);
        due("far below", x.count(Integer.MIN_VALUE), NONE);
        x.back(1);
        due("given back", x.count(21), NONE);
    }
}
