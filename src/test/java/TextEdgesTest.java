/** LISTS, ACTS and the tape (==== 2., promises 7 to 12): each sentence that names an edge, at it and just beyond it. */
public final class TextEdgesTest {
    private static final int NONE = FrameRents.NONE;
    private static final String FACTS = "gdsnyfhiow";
    private static final String TEN = "A=1;B=1;C=1;D=1;E=1;F=1;G=1;H=1;I=1;J=1";

    public static void main(String[] args) {
        twoHundredBytes();
        tenLists();
        noBlanks();
        tenFormulas();
        semicolonBetween();
        lettersAToZ();
        noLetterTwice();
        noneIsWorthZero();
        choiceIsSo();
        choiceNests();
        chosenAlone();
        leftOn();
        digits();
        factsOfAList();
        sixtyFourBits();
        dividedByZero();
        whatCannotStand();
        firstFromTheLeft();
        sixOpen();
        openTillTheSecondEnds();
        openInOneFormula();
        ring();
        ringAfterAllOthers();
        neededChosenOrNot();
        faultsEmptyTheTape();
        actLetters();
        actSigns();
        sixtyBytes();
        actFaults();
        tenActs();
        inForceBothToo();
        noMoreNoLess();
        boundByNumbers();
        actsTakeUnboundedLetters();
        actsForPastWeeks();
        listTillAnother();
        usesItIs();
        tapeOfTwoHundred();
        firstBytesAlone();
        tapeStays();
        worthReadsForty();
        worthUnbounded();
        Check.end();
    }

    private static void due(String call, long got, long want) {
        Check.due(call, got, want);
    }

    private static void due(String call, boolean got, boolean want) {
        Check.due(call, got, want);
    }

    private static void fault(String text, int want) {
        FrameRents x = new FrameRents();
        due("fault of " + text, Check.list(x, text), want);
        due("lists after " + text, x.count(4), want < 0 ? 0 : 1);
    }

    private static void worth(String sum, long want) {
        due("worth of " + sum, Check.worthOf(sum), want);
    }

    /** A new object with a tape that begins with these texts. */
    private static FrameRents fed(String... texts) {
        FrameRents x = Towns.town();
        for (String text : texts) Check.feed(x, Check.bytesOf(text));
        return x;
    }

    private static String ones(String start, int bytes) {
        StringBuilder text = new StringBuilder(start);
        while (text.length() < bytes) text.append(text.length() % 2 == start.length() % 2 ? '1' : '+');
        return text.toString();
    }

    // ---- LISTS

    /** "LISTS are TEXTS of at most 200 bytes"; "the first n bytes of the tape (1 to 200...)"; "1 what can't stand there (the end, too)". */
    private static void twoHundredBytes() {
        String full = ones("W=", 199) + "1";
        due("bytes", full.length(), 200);
        fault(full, 0);
        fault(ones("W=", 200), -1200);
        fault(ones("W=", 199) + "!", -1199);
        fault(ones("W=", 198) + "!1", -1198);
        fault(ones("W=", 199), 0);
        due("n 200", fed(full).list(200), 0);
        due("n 201", fed(full).list(201), NONE);
        due("n 1, a fault", fed(full).list(1), -1001);
        due("n 0", fed(full).list(0), NONE);
        due("n -1", fed(full).list(-1), NONE);
        due("n far below", fed(full).list(Integer.MIN_VALUE), NONE);
        due("n far", fed(full).list(Integer.MAX_VALUE), NONE);
        FrameRents x = fed(full);
        x.list(200);
        due("all of it counts", Check.worth(x, 0, 'W'), 98 + 11);
    }

    /** "LISTS 0 to 9"; "NONE: ... 10 are there". */
    private static void tenLists() {
        FrameRents x = new FrameRents();
        for (int l = 0; l < 10; l++) {
            due("a fault takes no number", Check.list(x, "W"), -1001);
            due("list", Check.list(x, "W=" + l), l);
        }
        due("an 11th", Check.list(x, "W=1"), NONE);
        due("an 11th that has a fault", x.list(1), NONE);
        due("the tape stays", x.count(10), 20);
        due("ten", x.count(4), 10);
        due("list 9", x.count(49), 1);
        due("list 10", x.count(50), NONE);
        x.feed(0, 0, 0, 0, 0);
        due("list 9 has its own worth", x.worth(9, 22), 9);
        due("list 0 too", Check.worth(x, 0, 'W'), 0);
        due("list 10", Check.worth(x, 10, 'W'), 0);
    }

    /** "no blanks". */
    private static void noBlanks() {
        fault(" W=1", -1000);
        fault("W =1", -1001);
        fault("W= 1", -1002);
        fault("W=1 ", -1003);
        fault("W=1 +2", -1003);
        fault("W=1+ 2", -1004);
        fault("W=1; A=1", -1004);
        fault("W=1;A=1\n", -1007);
        fault("W=\t1", -1002);
        fault("W=1\0", -1003);
        fault("W=12 3", -1004);
    }

    /** "FORMULAS (10 at most)"; "4 an 11th FORMULA, at its letter (if it can stand there, and has none)". */
    private static void tenFormulas() {
        FrameRents x = new FrameRents();
        due("ten", Check.list(x, TEN), 0);
        due("ten", x.count(40), 10);
        due("nine", Check.list(x, TEN.substring(0, 35)), 1);
        due("nine", x.count(41), 9);
        due("the tenth is worth something", Check.worth(x, 0, 'J'), 1);
        fault(TEN + ";K=1", -4040);
        fault(TEN + ";K", -4040);
        fault(TEN + ";Z=", -4040);
        fault(TEN + ";J=1", -3040);
        fault(TEN + ";A", -3040);
        fault(TEN + ";k=1", -1040);
        fault(TEN + ";=1", -1040);
        fault(TEN + ";;", -1040);
        fault(TEN + ";", -1040);
        fault(TEN + "1;K=1", -4041);
        fault(TEN + "K=1", -1039);
    }

    /** "with a ; (59) between two". */
    private static void semicolonBetween() {
        fault("W=1;R=2", 0);
        fault(";W=1", -1000);
        fault("W=1;", -1004);
        fault("W=1;;R=2", -1004);
        fault("W=1,R=2", -1003);
        fault("W=1:R=2", -1003);
        fault("W=1R=2", -1003);
        fault("W=(1;R=2)", -1004);
        fault("W=1<2;R=2", -1005);
        fault("W=1<2?3;R=2", -1007);
        fault("W=1<2?3:4;R=2", 0);
        FrameRents x = Towns.townWith("W=1", "W=1;R=2");
        due("one", x.count(40), 1);
        due("two", x.count(41), 2);
    }

    /** "a letter A to Z, = , an E". */
    private static void lettersAToZ() {
        for (char c = 'A'; c <= 'Z'; c++) {
            FrameRents x = new FrameRents();
            due("list of " + c, Check.list(x, c + "=7"), 0);
            due("its worth", Check.worth(x, 0, c), 7);
            due("as a letter of an E", Check.list(x, (c == 'A' ? "B=" : "A=") + c), 1);
        }
        fault("@=1", -1000);
        fault("[=1", -1000);
        fault("a=1", -1000);
        fault("1=1", -1000);
        fault("W=@", -1002);
        fault("W=[", -1002);
        fault("W", -1001);
        fault("W:1", -1001);
        fault("W<1", -1001);
        fault("WA=1", -1001);
        fault("W==1", -1002);
    }

    /** "No letter has two FORMULAS"; "3 a letter that has a FORMULA, at it". */
    private static void noLetterTwice() {
        fault("W=1;W=2", -3004);
        fault("W=1;W", -3004);
        fault("A=1;B=2;A=3", -3008);
        fault("A=1;B=2;B=3", -3008);
        fault("Z=1;Z=1", -3004);
        fault("A=B;B=1", 0);
        fault(TEN.substring(0, 35) + ";I=1", -3036);
        FrameRents x = new FrameRents();
        due("one list", Check.list(x, "W=1"), 0);
        due("another one's letters are its own", Check.list(x, "W=2"), 1);
        Check.list(x, "A=1;A=1");
        due("a fault's letters are gone", Check.list(x, "A=3"), 2);
    }

    /** "one that has none is worth 0". */
    private static void noneIsWorthZero() {
        worth("A", 0);
        worth("Z+5", 5);
        worth("7/A", 0);
        worth("A=0?1:2", 1);
        FrameRents x = Towns.townWith("A=5;W=A", "W=A");
        due("has one", Check.worth(x, 0, 'W'), 5);
        due("has none in this list", Check.worth(x, 1, 'W'), 0);
        due("itself", Check.worth(x, 1, 'A'), 0);
        due("once more the first", Check.worth(x, 0, 'A'), 5);
    }

    /** "SUM, a sign < > or =, SUM, ? CHOICE : CHOICE (the first if it is so, else the second...)". */
    private static void choiceIsSo() {
        String[] pairs = {"1%2", "2%2", "3%2"};
        int[][] due = {{3, 4, 4}, {4, 3, 4}, {4, 4, 3}};
        for (int i = 0; i < 3; i++) {
            worth(pairs[i].replace('%', '<') + "?3:4", due[i][0]);
            worth(pairs[i].replace('%', '=') + "?3:4", due[i][1]);
            worth(pairs[i].replace('%', '>') + "?3:4", due[i][2]);
        }
        worth("0-1<0?3:4", 3);
        worth("0<0-1?3:4", 4);
        worth("0-1>0?3:4", 4);
        worth("1+1=2?3:4", 3);
        worth("2=1+1?3:4", 3);
        worth("2*3>1+4?3:4", 3);
    }

    /** "CHOICE: a SUM, or SUM, a sign..., ? CHOICE : CHOICE". */
    private static void choiceNests() {
        worth("1<2?3<4?5:6:7", 5);
        worth("1<2?4<3?5:6:7", 6);
        worth("2<1?3<4?5:6:7", 7);
        worth("2<1?3:4<5?6:7", 6);
        worth("2<1?3:5<4?6:7", 7);
        worth("1<2?3:4+100", 3);
        worth("2<1?3:4+100", 104);
        worth("(1<2?3:4)+100", 103);
        worth("(1<2?0:4)<1?8:9", 8);
        fault("W=1<2", -1005);
        fault("W=1<2<3?4:5", -1005);
        fault("W=1<2=3?4:5", -1005);
        fault("W=1?2:3", -1003);
        fault("W=1<2:3", -1005);
        fault("W=1<2?3", -1007);
        fault("W=1<2?3?4:5", -1007);
        fault("W=1<2?3:", -1008);
        fault("W=1<2?:3", -1006);
        fault("W=1<?2:3", -1004);
        fault("W=<1?2:3", -1002);
        fault("W=1<2?3:4:5", -1009);
        fault("W=1<2?(3:4)", -1008);
        fault("W=1<2?3:4?5:6", -1009);
        fault("W=1<=2?3:4", -1004);
    }

    /** "both CHOICES are asked for nothing but what is chosen". */
    private static void chosenAlone() {
        worth("1<2?7:1/0", 7);
        worth("1<2?7:1%0", 7);
        worth("2<1?1/0:7", 7);
        worth("1<2?5:999999*999999*999999*999999", 5);
        worth("(1<2?5:6)+(2<1?5:6)*10", 65);
    }

    /** "TERMS with + - between two; a TERM: BOUNDS with * / % between two; a BOUND: FACTORS with _ or ^...; all from the left on". */
    private static void leftOn() {
        worth("9-4-3", 2);
        worth("9-4+3", 8);
        worth("100/7*7", 98);
        worth("100*7/7", 100);
        worth("100/7/7", 2);
        worth("17%5%2", 0);
        worth("17%5*2", 4);
        worth("17*5%2", 1);
        worth("9/2%3", 1);
        worth("9_4^6", 6);
        worth("9^4_6", 6);
        worth("1^2_1", 1);
        worth("3_1^2", 2);
        worth("2+3*4", 14);
        worth("2*3+4", 10);
        worth("2*3^4", 8);
        worth("3^4*2", 8);
        worth("2*5_3", 6);
        worth("2+3*4_1", 5);
        worth("10-2^3", 7);
        worth("5_5", 5);
        worth("5^5", 5);
        worth("(0-1)_0", -1);
        worth("(0-1)^0", 0);
        fault("W=1+", -1004);
        fault("W=1+*2", -1004);
        fault("W=1*-2", -1004);
        fault("W=1_^2", -1004);
        fault("W=+1", -1002);
        fault("W=-1", -1002);
    }

    /** "a number of one to six digits"; "2 a seventh digit, at it". */
    private static void digits() {
        worth("1", 1);
        worth("0", 0);
        worth("99999", 99999);
        worth("999999", 999999);
        worth("000009", 9);
        fault("W=1000000", -2008);
        fault("W=9999999", -2008);
        fault("W=0000001", -2008);
        fault("W=12345678", -2008);
        fault("W=123456a", -1008);
        fault("W=123456:", -1008);
        fault("W=123456/", -1009);
        fault("W=1+1234567", -2010);
        fault("W=(1234567)", -2009);
        fault("W=123456+123456", 0);
        fault("W=123456+1234567", -2015);
        fault("W=/1", -1002);
        fault("W=1;R=1234567", -2012);
    }

    /** "a fact: g the GAUGE, d dozens, ..., w the WEEK"; no other small letter is one. */
    private static void factsOfAList() {
        for (char c = 'a'; c <= 'z'; c++) {
            boolean is = FACTS.indexOf(c) >= 0;
            fault("W=" + c, is ? 0 : -1002);
            fault("W=1+" + c, is ? 0 : -1004);
            if (!is) continue;
            int[] facts = new int[10];
            facts[FACTS.indexOf(c)] = 77;
            due("fact " + c, Check.worthOf("" + c, facts), 77);
        }
        fault("W=`", -1002);
        fault("W={", -1002);
        fault("W=gd", -1003);
        fault("W=2d", -1003);
        fault("W=d2", -1003);
    }

    /** "All is reckoned with 64 bits, as the machine does". */
    private static void sixtyFourBits() {
        int most = Integer.MAX_VALUE;
        int least = Integer.MIN_VALUE;
        due("32 bits are too few", Check.worthOf("g+1", most), 2147483648L);
        due("below, too", Check.worthOf("g-1", least), -2147483649L);
        due("the least", Check.worthOf("0-g*g*2", least), Long.MIN_VALUE);
        due("the most", Check.worthOf("0-g*g*2-1", least), Long.MAX_VALUE);
        due("one beyond the most", Check.worthOf("g*g*2-1+1", least), Long.MIN_VALUE);
        due("wraps", Check.worthOf("g*g*4", least), 0);
        due("wraps", Check.worthOf("g*g*g", most), (long) most * most * most);
        due("the least by -1", Check.worthOf("g*g*2/(0-1)", least), Long.MIN_VALUE);
        due("what is left of the least by -1", Check.worthOf("g*g*2%(0-1)", least), 0);
        due("the least is less than the most", Check.worthOf("g*g*2<g*g*2-1?3:4", least), 3);
        due("the lesser of both", Check.worthOf("(g*g*2)_(g*g*2-1)", least), Long.MIN_VALUE);
        due("the greater of both", Check.worthOf("(g*g*2)^(g*g*2-1)", least), Long.MAX_VALUE);
        due("towards 0", Check.worthOf("g/2", -7), -3);
        due("what is left has the sign ahead", Check.worthOf("g%3", -7), -1);
        due("what is left by one below 0", Check.worthOf("7%g", -3), 1);
    }

    /** "what is divided by 0 is 0". */
    private static void dividedByZero() {
        worth("5/0", 0);
        worth("5%0", 0);
        worth("0/0", 0);
        worth("0%0", 0);
        worth("(0-5)/0", 0);
        worth("(0-5)%0", 0);
        worth("5/(3-3)+4", 4);
        worth("5%d", 0);
        worth("5/d*7", 0);
        due("divided by 1", Check.worthOf("5/d", 0, 1), 5);
        due("divided by -1", Check.worthOf("5/d", 0, -1), -5);
        due("wrapped to 0", Check.worthOf("5/(g*g*4)", Integer.MIN_VALUE), 0);
    }

    /** "1 what can't stand there (the end, too)". */
    private static void whatCannotStand() {
        String[] texts = {"W", "W=", "W=(", "W=(1", "W=()", "W=1)", "W=(1))", "W=1(", "W=(1)(2)", "W=1A", "W=A1", "W=AB", "W=gA", "W=1+)",
            "W=(1+)", "W=(1<2)", "W=(1<2?3)", "W=(1<2?3:)", "W=#", "W=1#", "W=1.5", "W=1!", "W=?", "W=:", "W=1:", "W=1?", "W=;", "W=)"};
        int[] places = {1, 2, 3, 4, 3, 3, 5, 3, 5, 3, 3, 3, 3, 4,
            5, 6, 8, 9, 2, 3, 3, 3, 2, 2, 3, 3, 2, 2};
        for (int i = 0; i < texts.length; i++) fault(texts[i], -1000 - places[i]);
        for (int b : new int[] {0, 127, 128, 200, 255}) {
            FrameRents x = new FrameRents();
            Check.feed(x, 'W', '=', b);
            due("byte " + b, x.list(3), -1002);
            Check.feed(x, b, '=', '1');
            due("byte " + b + " first", x.list(3), -1000);
            Check.feed(x, 'W', '=', '1', b);
            due("byte " + b + " last", x.list(4), -1003);
        }
        // a byte above 127 is no letter that it would be with seven bits
        FrameRents y = new FrameRents();
        Check.feed(y, 'W' + 128, '=', '1');
        due("W above 127", y.list(3), -1000);
        Check.feed(y, 'W', '=', 'd' + 128);
        due("d above 127", y.list(3), -1002);
    }

    /** "FAULTS, the first from the left". */
    private static void firstFromTheLeft() {
        fault("W=1234567;W=1", -2008);
        fault("W=1;W=1234567", -3004);
        fault("W=1!;W=1", -1003);
        fault("W=(((((((1234567", -5008);
        fault("W=1234567+(((((((", -2008);
        fault("W=1+;1234567", -1004);
        fault(TEN.replace("C=1", "C=+") + ";K=1", -1010);
        fault(TEN.replace("C=1", "A=1") + ";K=1", -3008);
    }

    /** "5 a seventh of ( ? that are open in one another..., at it". */
    private static void sixOpen() {
        fault("W=((((((1))))))", 0);
        fault("W=(((((((1)))))))", -5008);
        fault("W=((((((1+(1))))))", -5010);
        fault("W=1<2?1<2?1<2?1<2?1<2?1<2?1:2:3:4:5:6:7", 0);
        fault("W=1<2?1<2?1<2?1<2?1<2?1<2?1<2?1:2:3:4:5:6:7:8", -5029);
        fault("W=1<2?(1<2?(1<2?(1:2):3):4)", -1018);
        fault("W=1<2?(1<2?(1<2?(1):2):3):4", 0);
        fault("W=1<2?(1<2?(1<2?((1)):2):3):4", -5017);
        fault("W=(1<2?(1<2?(1<2?1:2):3):4)", 0);
        fault("W=(1<2?(1<2?(1<2?(1):2):3):4)", -5017);
        fault("W=((((((1<2?3:4))))))", -5011);
        fault("W=(((((1<2?3:4)))))", 0);
        fault("W=(((((1<2?(3):4)))))", -5011);
        fault("W=(((((1<2?3:(4))))))", -5013);
        // what can't stand there is told as that, though it would be the seventh
        fault("W=((((((1?", -1009);
        fault("W=((((((1(", -1009);
        fault("W=((((((?", -1008);
    }

    /** "(a ? is open till its second CHOICE ends)". */
    private static void openTillTheSecondEnds() {
        fault("W=1<2?1:1<2?1:1<2?1:1<2?1:1<2?1:1<2?1:1", 0);
        fault("W=1<2?1:1<2?1:1<2?1:1<2?1:1<2?1:1<2?1:1<2?1:1", -5041);
        fault("W=1<2?1:(((((1)))))", 0);
        fault("W=1<2?1:((((((1))))))", -5013);
        fault("W=1<2?(((((1))))):(((((1)))))", 0);
        fault("W=1<2?((((((1)))))):1", -5011);
        // the SUMS ahead of a ? stand outside of it, and a ) ends the CHOICES in it
        fault("W=((((((1))))))<((((((2))))))?3:4", 0);
        fault("W=(((((1<2?3:4)))))+((((((1))))))", 0);
        fault("W=(1<2?3:4)*(1<2?3:4)*(1<2?3:4)*(1<2?3:4)*(1<2?3:4)*(1<2?3:4)*(1<2?3:4)", 0);
        fault("W=(1<2?(1<2?3:4):(1<2?3:4))", 0);
        fault("W=1<2?1<2?1<2?1:2:3:1<2?1<2?1<2?1<2?1<2?1:2:3:4:5:6", 0);
        fault("W=1<2?1<2?1<2?1:2:3:1<2?1<2?1<2?1<2?1<2?1<2?1:2:3:4:5:6:7", -5043);
    }

    /** "a seventh of ( ? that are open in one another in one FORMULA". */
    private static void openInOneFormula() {
        fault("W=((((((1))))));R=((((((1))))))", 0);
        fault("W=((((((1))))));R=(((((((1", -5024);
        fault("W=((((((1))))))+((((((1))))))+(1)", 0);
        fault("W=1<2?3:4;R=1<2?3:4;C=1<2?3:4;A=1<2?3:4;B=1<2?3:4;D=1<2?3:4;E=1<2?3:4", 0);
    }

    /** "6 a RING: a FORMULA that needs itself, by others or not: at the first letter (of those ahead of a =) of which that is so". */
    private static void ring() {
        fault("W=W", -6000);
        fault("W=1+(2*W)", -6000);
        fault("A=B;B=A", -6000);
        fault("A=1;B=B", -6004);
        fault("A=B;B=B", -6004);
        fault("A=B;B=C;C=B", -6004);
        fault("A=B;B=C;C=D;D=C", -6008);
        fault("A=1;B=C;C=D;D=B", -6004);
        fault("C=D;D=C;A=B;B=A", -6000);
        fault("A=C;B=A;C=1", 0);
        fault("A=B+B;B=C+C;C=D;D=E", 0);
        fault("A=B;B=C;C=D;D=E;E=F;F=G;G=H;H=I;I=J;J=A", -6000);
        fault("J=A;I=J;H=I;G=H;F=G;E=F;D=E;C=D;B=C;A=B", -6000);
        fault("A=B;B=C;C=D;D=E;E=F;F=G;G=H;H=I;I=J;J=I", -6000 - 32);
        fault("A=B;B=C;C=D;D=E;E=F;F=G;G=H;H=I;I=J;J=J", -6000 - 36);
        fault("A=B;B=C;C=D;D=E;E=F;F=G;G=H;H=I;I=J;J=K", 0);
        fault(ones("A=", 151) + ";B=B", -6152);
        fault("W=W", -6000);
    }

    /** "then, all that being right, 6". */
    private static void ringAfterAllOthers() {
        fault("A=A;B=", -1006);
        fault("A=A;", -1004);
        fault("A=A)", -1003);
        fault("A=A;B=1234567", -2012);
        fault("A=A;A=1", -3004);
        fault("A=A;" + TEN.substring(4) + ";K=1", -4040);
        fault("A=A;B=(((((((", -5012);
        // what a text with a fault needed is forgotten with it
        FrameRents x = Towns.town();
        due("needs B", Check.list(x, "A=B;B=1!"), -1007);
        due("B needs A", Check.list(x, "B=A"), 0);
        due("a ring", Check.list(x, "A=B;B=A"), -6000);
        due("none", Check.list(x, "A=B;B=C"), 1);
        due("none", Check.list(x, "B=A;A=C"), 2);
        due("needs itself, and a fault", Check.list(x, "A=A+!"), -1004);
        due("does not", Check.list(x, "A=1"), 3);
        due("B needs A, and a fault", Check.list(x, "A=1;B=A;"), -1008);
        due("A needs B, which is none", Check.list(x, "A=B"), 4);
        for (int i = 0; i < 3; i++) due("long, and a fault", Check.list(x, ones("W=", 199) + "!"), -1199);
        due("long", Check.list(x, ones("W=", 199)), 5);
        due("and all of it counts", Check.worth(x, 5, 'W'), 99);
        for (int i = 0; i < 3; i++) due("long, and a fault", Check.act(x, 0, 0, ones("W^", 60)), -1060);
        due("an act", Check.act(x, 0, 0, "W^107"), 0);
        x.uses(0, 5);
        x.hire(0, 0);
        due("and all of it counts", x.week(0, 0, 0, 0), 107);
    }

    /** "(What stands in a CHOICE is needed, chosen or not.)". */
    private static void neededChosenOrNot() {
        fault("A=1<2?1:A", -6000);
        fault("A=1<2?A:1", -6000);
        fault("A=A<1?1:2", -6000);
        fault("A=1<A?1:2", -6000);
        fault("A=1<2?1:B;B=A", -6000);
        fault("W=1;A=1<2?3:4<5?6:A", -6004);
        FrameRents x = Towns.townWith("A=d<1?B:C;B=7;C=8");
        due("the first", Check.worth(x, 0, 'A', 0, 0), 7);
        due("the second", Check.worth(x, 0, 'A', 0, 1), 8);
    }

    /** "(1 to 200; empty then)": of a list and of a FAULT; "a FAULT: -1000 times its number, less its place". */
    private static void faultsEmptyTheTape() {
        String[] texts = {"W=1", "W=", "W=1234567", "W=1;W=1", TEN + ";K=1", "W=(((((((", "W=W"};
        int[] answers = {0, -1002, -2008, -3004, -4040, -5008, -6000};
        for (int i = 0; i < texts.length; i++) {
            FrameRents x = fed(texts[i], "more of it");
            due("the tape has more", x.count(10) > texts[i].length(), true);
            due("list of " + texts[i], x.list(texts[i].length()), answers[i]);
            due("empty then", x.count(10), 0);
            due("lists", x.count(4), answers[i] == 0 ? 1 : 0);
            due("the next list", Check.list(x, "W=5"), answers[i] == 0 ? 1 : 0);
        }
    }

    // ---- ACTS

    /** "a letter W, R, C or T". */
    private static void actLetters() {
        for (char c = 0; c < 256; c++) {
            FrameRents x = new FrameRents();
            Check.feed(x, c, '_', '1');
            due("act on letter " + (int) c, x.act(0, 0, 3), "WRCT".indexOf(c) >= 0 ? 0 : -1000);
        }
    }

    /** "_ (no more than) or ^ (no less than)". */
    private static void actSigns() {
        for (char c = 0; c < 256; c++) {
            FrameRents x = new FrameRents();
            Check.feed(x, 'R', c, '1');
            due("act with sign " + (int) c, x.act(0, 0, 3), c == '_' || c == '^' ? 0 : -1001);
        }
    }

    /** "an E (at most 60 bytes in all...)"; "(1 to 60; empty then)". */
    private static void sixtyBytes() {
        String sixty = ones("R_", 59) + "1";
        due("bytes", sixty.length(), 60);
        due("n 60", fed(sixty).act(0, 0, 60), 0);
        due("n 61", fed(ones("R_", 61)).act(0, 0, 61), NONE);
        due("n 1", fed(sixty).act(0, 0, 1), -1001);
        due("n 0", fed(sixty).act(0, 0, 0), NONE);
        due("n -1", fed(sixty).act(0, 0, -1), NONE);
        due("n far below", fed(sixty).act(0, 0, Integer.MIN_VALUE), NONE);
        due("n far", fed(sixty).act(0, 0, Integer.MAX_VALUE), NONE);
        due("a fault at the end of 60", fed(ones("R_", 60)).act(0, 0, 60), -1060);
        due("a fault at the last of 60", fed(ones("R_", 59) + "!").act(0, 0, 60), -1059);
        FrameRents x = Towns.working("R=1000");
        due("60 bytes", Check.act(x, 0, 0, sixty), 0);
        due("all of them count", x.week(0, 0, 0, 1), 28 + 11);
    }

    /** "FAULTS 1, 2, 5 likewise": no RING, and one FORMULA alone. */
    private static void actFaults() {
        String[] texts = {"R", "R_", "R_1;", "R_1;R_1", "R_1)", "R_ 1", " R_1", "R_1<2", "R_1<2?3:4", "R_123456", "R_1234567",
            "R_((((((1))))))", "R_(((((((1", "R_1<2?1<2?1<2?1<2?1<2?1<2?1:2:3:4:5:6:7", "R_1<2?1<2?1<2?1<2?1<2?1<2?1<2?", "R_R", "W^W*2", "T_A+Z",
            "R_1=1", "R=1"};
        int[] faults = {-1001, -1002, -1003, -1003, -1003, -1002, -1000, -1005, 0, 0, -2008,
            0, -5008, 0, -5029, 0, 0, 0, -1005, -1001};
        for (int i = 0; i < texts.length; i++) {
            FrameRents x = new FrameRents();
            due("act " + texts[i], Check.act(x, 0, 519, texts[i]), faults[i]);
            due("the tape", x.count(10), 0);
            due("acts", x.count(5), faults[i] == 0 ? 1 : 0);
            due("the next act", Check.act(x, 0, 519, "W_1"), faults[i] == 0 ? 1 : 0);
        }
    }

    /** "ACTS 0 to 9"; "NONE: ... 10 are there". */
    private static void tenActs() {
        FrameRents x = Towns.working("W=100");
        for (int a = 0; a < 10; a++) {
            due("a fault takes no number", Check.act(x, 0, 0, "A_1"), -1000);
            due("act", Check.act(x, 0, 0, "W_" + (90 - a)), a);
        }
        due("an 11th", Check.act(x, 0, 0, "W_1"), NONE);
        due("the tape stays", x.count(10), 20);
        due("an 11th that has a fault", x.act(0, 0, 1), NONE);
        due("ten", x.count(5), 10);
        due("the tenth is in force, the 11th not", x.week(0, 0, 0, 0), 81);
    }

    /** "in FORCE from a WEEK to a WEEK (both too)"; WEEKS 0 to 519. */
    private static void inForceBothToo() {
        FrameRents x = Towns.working("W=100;R=100;C=100;T=0");
        due("weeks 3 to 5", Check.act(x, 3, 5, "W_50"), 0);
        due("week 4 alone", Check.act(x, 4, 4, "R_50"), 1);
        due("all weeks", Check.act(x, 0, 519, "C_50"), 2);
        int[] wages = {100, 100, 100, 50, 50, 50, 100};
        for (int w = 0; w < wages.length; w++) {
            due("W in week " + w, x.week(0, w, w, 0), wages[w]);
            due("R in week " + w, x.week(0, w, w, 1), w == 4 ? 50 : 100);
            due("C in week " + w, x.week(0, w, w, 2), 50);
        }
        due("C in week 519", x.week(0, 519, 519, 2), 50);
        Towns.range("from", 0, 519, NONE, () -> fed("R_1"), (y, n) -> y.act(n, 519, 3));
        Towns.range("to", 0, 519, NONE, () -> fed("R_1"), (y, n) -> y.act(0, n, 3));
        due("from behind to", fed("R_1").act(6, 5, 3), NONE);
        due("from as to", fed("R_1").act(5, 5, 3), 0);
    }

    /** "_ (no more than) or ^ (no less than)": at what is bounded, below and above it. */
    private static void noMoreNoLess() {
        int[] limits = {99, 100, 101};
        for (int limit : limits) {
            FrameRents x = Towns.working("W=100;R=100");
            Check.act(x, 0, 0, "W_" + limit);
            Check.act(x, 0, 0, "R^" + limit);
            due("W no more than " + limit, x.week(0, 0, 0, 0), Math.min(100, limit));
            due("R no less than " + limit, x.week(0, 0, 0, 1), Math.max(100, limit));
        }
    }

    /** "Of a WEEK the ACTS in FORCE, by numbers, each bound the letter, as bounded by the ones ahead." */
    private static void boundByNumbers() {
        FrameRents x = Towns.working("W=100");
        Check.act(x, 0, 0, "W_40");
        Check.act(x, 0, 0, "W^60");
        due("no more, then no less", x.week(0, 0, 0, 0), 60);
        Check.act(x, 0, 0, "W_50");
        due("then no more once more", x.week(0, 0, 0, 0), 50);
        x = Towns.working("W=100");
        Check.act(x, 0, 0, "W^60");
        Check.act(x, 0, 0, "W_40");
        due("no less, then no more", x.week(0, 0, 0, 0), 40);
        x = Towns.working("W=100");
        Check.act(x, 1, 1, "W_40");
        Check.act(x, 0, 1, "W^60");
        due("one that is not in force bounds nothing", x.week(0, 0, 0, 0), 100);
        due("both", x.week(0, 1, 1, 0), 60);
        Check.act(x, 0, 1, "R^7");
        due("another letter stays", x.week(0, 1, 1, 0), 60);
        due("its own", x.week(0, 1, 1, 1), 7);
    }

    /** "letters A to Z are what the LIST's FORMULAS are worth, unbounded". */
    private static void actsTakeUnboundedLetters() {
        FrameRents x = Towns.working("W=100;R=0-30;A=7;T=1000*1000*2000");
        Check.act(x, 0, 0, "W_50");
        Check.act(x, 0, 0, "C^W+A");
        due("by W as its formula is", x.week(0, 0, 0, 2), 107);
        Check.act(x, 0, 0, "W^0-R");
        due("R below 0", x.week(0, 0, 0, 0), 50);
        Check.act(x, 0, 0, "W^R+100");
        due("R below 0", x.week(0, 0, 0, 0), 70);
        Check.act(x, 0, 0, "W_T/1000/1000");
        due("T above the most", x.week(0, 0, 0, 0), 70);
        Check.act(x, 0, 0, "W^T/1000/1000");
        due("T above the most", x.week(0, 0, 0, 0), 2000);
        Check.act(x, 0, 0, "W_Z+g");
        due("a letter without one, and a fact", x.week(0, 0, 0, 0), 20);
        due("for another frame", x.week(1, 0, 0, 0), 30);
        FrameRents own = Towns.working("R=30");
        Check.act(own, 0, 0, "C^R");
        due("one's own has no R, but its formula is", own.week(2, 0, 0, 1), 0);
        due("by the formula", own.week(2, 0, 0, 2), 30);
    }

    /** An ACT may be for WEEKS that are gone. */
    private static void actsForPastWeeks() {
        FrameRents x = Towns.working("W=100");
        Check.goes(x, 3);
        due("before", x.week(0, 1, 3, 0), 100);
        Check.act(x, 1, 1, "W_9");
        due("gone", x.week(0, 1, 3, 0), 9);
        due("whatever t", x.week(0, 1, 0, 0), 9);
        due("another one", x.week(0, 2, 3, 0), 100);
    }

    // ---- whose LIST

    /** "A LIST is that of a MASTER from a WEEK on, till another one is." */
    private static void listTillAnother() {
        FrameRents x = Towns.townWith("W=10", "W=20", "W=30");
        x.hire(0, 0);
        Check.goes(x, 2);
        x.uses(0, 0);
        Check.goes(x, 2);
        x.uses(0, 1);
        x.uses(0, 2);
        int[] lists = {NONE, NONE, 0, 0, 2, 2};
        for (int w = 0; w < lists.length; w++) {
            due("list in week " + w, x.listOf(0, w), lists[w]);
            due("W in week " + w, x.week(0, w, 4, 0), lists[w] == NONE ? 0 : 10 + 10 * lists[w]);
        }
        due("in week 519", x.listOf(0, 519), 2);
        due("W in week 519", x.week(0, 519, 519, 0), 30);
        due("another master's", x.listOf(1, 4), NONE);
        Towns.range("week of listOf", 0, 519, NONE, () -> Towns.working("W=1"), (y, n) -> y.listOf(0, n));
        Towns.range("master of listOf", 0, 2, NONE, () -> Towns.working("W=1"), (y, n) -> y.listOf(n, 0));
    }

    /** "false: no such ones, it is." */
    private static void usesItIs() {
        Towns.range("master of uses", 0, 2, 0, () -> Towns.townWith("W=1"), (y, n) -> Towns.of(y.uses(n, 0)));
        Towns.range("list of uses", 0, 1, 0, () -> Towns.townWith("W=1", "W=2"), (y, n) -> Towns.of(y.uses(0, n)));
        FrameRents x = Towns.townWith("W=1", "W=2");
        due("uses", x.uses(0, 0), true);
        due("it is", x.uses(0, 0), false);
        Check.goes(x, 5);
        due("it is still", x.uses(0, 0), false);
        due("another", x.uses(0, 1), true);
        due("the one before again", x.uses(0, 0), true);
        due("this week's is the last told", x.listOf(0, 5), 0);
    }

    // ---- the tape

    /** "how many it has; NONE if that would be more than 200"; "the highest of each int first". */
    private static void tapeOfTwoHundred() {
        FrameRents x = Towns.townWith("W=g;A=d;B=s;C=n;D=y;E=f;F=h;G=i;H=o;I=w");
        int[] facts = {0x01020304, 0x80000000, -1, 255, 0x7fffffff, 0x10203, 65536, -256, 1 << 24, 7};
        x.feed(facts[0], facts[1], facts[2], facts[3], facts[4]);
        x.feed(facts[5], facts[6], facts[7], facts[8], facts[9]);
        for (int i = 3; i <= 10; i++) due("feed", x.feed(i, i, i, i, i), 20 * i);
        due("one too many", x.feed(9, 9, 9, 9, 9), NONE);
        due("it has", x.count(10), 200);
        due("the first are the first still", x.worth(0, 22), facts[0]);
        due("empty then", x.count(10), 0);
        due("and fills again", x.feed(1, 2, 3, 4, 5), 20);
        x.feed(0, 0, 0, 0, 0);
        due("from the start", x.worth(0, 22), 1);
        for (int i = 0; i < 10; i++) due("fact " + i, Check.worth(x, 0, "WABCDEFGHI".charAt(i), facts), facts[i]);
    }

    /** "by the first n bytes of the tape (...; empty then)". */
    private static void firstBytesAlone() {
        FrameRents x = fed("W=12;R=5");
        due("three", x.list(3), 0);
        due("empty", x.count(10), 0);
        due("one digit", Check.worth(x, 0, 'W'), 1);
        due("no R", Check.worth(x, 0, 'R'), 0);
        due("nothing is left to read", x.list(1), NONE);
        Check.feed(x, Check.bytesOf("W_12;R=5"));
        due("an act of three", x.act(0, 0, 3), 0);
        due("empty", x.count(10), 0);
        x.uses(0, 0);
        x.hire(0, 0);
        due("one digit", x.week(0, 0, 0, 0), 1);
    }

    /** "it has not so many (the tape stays)". */
    private static void tapeStays() {
        String text = "W=d*3+2;R=4;C=5+6+7;T=1"; // 23 bytes: 40 are fed
        int[] wrong = {0, -1, 41, 200, 201, Integer.MAX_VALUE, Integer.MIN_VALUE};
        FrameRents x = fed(text);
        for (int n : wrong) {
            due("list of " + n, x.list(n), NONE);
            due("the tape stays", x.count(10), 40);
            due("act of " + n, x.act(0, 0, n), NONE);
            due("the tape stays", x.count(10), 40);
        }
        due("weeks that are none", x.act(0, 520, 5), NONE);
        due("the tape stays", x.count(10), 40);
        due("as it was", x.list(text.length()), 0);
        due("as it was", Check.worth(x, 0, 'C'), 18);
        due("nothing left", x.list(1), NONE);
        FrameRents y = fed("W=1");
        due("20 of 20 are enough", y.list(20), -1003);
        y = fed("W=1");
        due("21 are too many", y.list(21), NONE);
        due("the tape stays", y.count(10), 20);
        y = fed("W_1");
        due("20 of 20 are enough", y.act(0, 0, 20), -1003);
        y = fed("W_1");
        due("21 are too many", y.act(0, 0, 21), NONE);
        due("the tape stays", y.count(10), 20);
    }

    /** "the first 10 numbers of the tape (four bytes each, in this order; empty then)...; 0 if there are no such ones, or it has not so many (the tape stays)". */
    private static void worthReadsForty() {
        FrameRents x = Towns.townWith("W=7");
        due("an empty tape", x.worth(0, 22), 0);
        x.feed(0, 0, 0, 0, 0);
        due("20 bytes", x.worth(0, 22), 0);
        due("stay", x.count(10), 20);
        x.feed(0, 0, 0, 0, 0);
        int[][] wrong = {{1, 22}, {-1, 22}, {0, 26}, {0, -1}, {9, 22}, {10, 22}, {0, Integer.MAX_VALUE}, {Integer.MIN_VALUE, 22}};
        for (int[] w : wrong) {
            due("no such ones", x.worth(w[0], w[1]), 0);
            due("stay", x.count(10), 40);
        }
        due("40 bytes", x.worth(0, 22), 7);
        due("empty then", x.count(10), 0);
        x.feed(0, 0, 0, 0, 0);
        x.feed(0, 0, 0, 0, 0);
        x.feed(0, 0, 0, 0, 0);
        due("60 bytes", x.worth(0, 22), 7);
        due("empty then", x.count(10), 0);
        Check.list(x, "A=3;Z=4");
        due("x 0", Check.worth(x, 1, 'A'), 3);
        due("x 25", Check.worth(x, 1, 'Z'), 4);
        x.feed(0, 0, 0, 0, 0);
        x.feed(0, 0, 0, 0, 0);
        due("a letter without a formula", x.worth(1, 1), 0);
        due("is one: empty then", x.count(10), 0);
    }

    /** worth: "unbounded". */
    private static void worthUnbounded() {
        FrameRents x = Towns.working("W=0-d;R=1000*1000*d;T=d");
        Check.act(x, 0, 519, "W^5");
        Check.act(x, 0, 519, "R_5");
        due("below 0", Check.worth(x, 0, 'W', 0, 4), -4);
        due("above the most", Check.worth(x, 0, 'R', 0, 5000), 5000000000L);
        due("facts may be anything", Check.worth(x, 0, 'T', 0, -2000000000), -2000000000);
        due("in a week it is bounded", x.week(0, 0, 0, 0), 5);
    }
}
