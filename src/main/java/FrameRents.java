/** Knitters' frames hired by the week; ../shared/DOC.md says, promise by promise, what it does. */
public final class FrameRents {
    public static final int NONE = -1;

    private static final long NO_GAIN = -1000000000000L;
    private static final int WEEKS = 520;
    private static final int SHAPES = 10;
    private static final int FORMULAS = 10;

    private final Tape tape;
    private final Reader reader;
    private final Prices prices;
    private final Town town;
    private final Entries entries;
    private final BagmanBook book;
    private final Order order;
    private final Lots lots;
    private final Debts debts;
    private final Fund fund;
    private int parishScale;
    private int waste;

    public FrameRents() {
        tape = new Tape();
        reader = new Reader(tape);
        prices = new Prices();
        town = new Town();
        entries = new Entries();
        book = new BagmanBook();
        order = new Order();
        lots = new Lots();
        debts = new Debts();
        fund = new Fund();
        parishScale = 0;
        waste = 5;
    }

    // ---- masters, knitters, frames

    public int master(int house) {
        if (house != NONE && !town.isHouse(house)) return NONE;
        return town.addMaster(house);
    }

    public int knitter(int heads) {
        if (!within(heads, 1, 9)) return NONE;
        return town.addKnitter(heads);
    }

    public int frame(int gauge, int m, int knitter) {
        if (!within(gauge, 10, 40) || !town.hasMaster(m)) return NONE;
        if (knitter != NONE && !town.hasKnitter(knitter)) return NONE;
        return town.addFrame(gauge, m, knitter);
    }

    public boolean hire(int f, int k) {
        if (!town.isForHire(f) || !town.hasKnitter(k)) return false;
        if (town.holderAt(f, town.now) != NONE) return false;
        town.holdFromNow(f, k);
        return true;
    }

    public boolean back(int f) {
        if (!town.isForHire(f) || town.holderAt(f, town.now) == NONE) return false;
        town.holdFromNow(f, NONE);
        return true;
    }

    // ---- the tape, lists and acts

    public int feed(int a, int b, int c, int d, int e) {
        if (!tape.hasRoomFor(20)) return NONE;
        tape.putInt(a);
        tape.putInt(b);
        tape.putInt(c);
        tape.putInt(d);
        tape.putInt(e);
        return tape.size;
    }

    public int list(int n) {
        Sheet sheet = prices.nextList();
        if (sheet == null || !within(n, 1, 200) || n > tape.size) return NONE;
        int fault = reader.readList(sheet, n);
        tape.wipe();
        return fault != 0 ? fault : prices.keepList();
    }

    public int act(int from, int to, int n) {
        Sheet sheet = prices.nextAct();
        if (sheet == null || !within(n, 1, 60) || n > tape.size) return NONE;
        if (!isWeek(from) || !isWeek(to) || from > to) return NONE;
        int fault = reader.readAct(sheet, n);
        tape.wipe();
        if (fault != 0) return fault;
        sheet.from = from;
        sheet.to = to;
        return prices.keepAct();
    }

    public boolean uses(int m, int l) {
        if (!town.hasMaster(m) || prices.listAt(l) == null) return false;
        if (town.listIn(m, town.now) == l) return false;
        town.listFromNow(m, l);
        return true;
    }

    public int listOf(int m, int week) {
        return town.listIn(m, week);
    }

    public long worth(int l, int x) {
        Sheet sheet = prices.listAt(l);
        if (sheet == null || !within(x, 0, 25) || tape.size < 4 * Prices.FACTS) return 0;
        for (int i = 0; i < Prices.FACTS; i++) prices.setFact(i, tape.intAt(4 * i));
        tape.wipe();
        prices.reckonLetters(sheet);
        return prices.letterAt(x);
    }

    // ---- entries and what they are worth

    public int entry(int f, int week, int shape, int dozens, int narrowings, int yarn, int hose) {
        if (!town.hasFrame(f) || !within(week, 0, town.now)) return NONE;
        if (!within(shape, 0, 9) || !within(dozens, 0, 99) || !within(narrowings, 0, 999)) return NONE;
        if (!within(yarn, 0, 9999) || !within(hose, 0, 9999)) return NONE;
        int e = entries.open(f, week, town.now);
        if (e == NONE) return NONE;
        entries.put(e, Entries.SHAPE, shape);
        entries.put(e, Entries.DOZENS, dozens);
        entries.put(e, Entries.NARROWINGS, narrowings);
        entries.put(e, Entries.YARN, yarn);
        entries.put(e, Entries.HOSE, hose);
        return e;
    }

    public long week(int f, int week, int t, int what) {
        if (!town.hasFrame(f) || !isWeek(week) || !isWeek(t) || !within(what, 0, 7)) return NONE;
        if (what == 5) return idleWeeks(f, week, t);
        if (what == 6) return town.holderAt(f, week);
        if (what == 7) return entries.knownAt(f, week, t);
        if (!reckonWeek(f, week, t, town.listIn(town.masterOf(f), week))) return 0;
        switch (what) {
            case 0:
                return prices.wages();
            case 1:
                return prices.rent();
            case 2:
                return prices.charges();
            case 3:
                return prices.truck();
            default:
                return prices.netWages();
        }
    }

    public long earned(int k, int week, int t, boolean parish) {
        if (!town.hasKnitter(k) || !isWeek(week) || !isWeek(t)) return 0;
        long all = 0;
        for (int f = 0; f < town.frames; f++) {
            int m = town.masterOf(f);
            if (town.holderAt(f, week) != k || !reckonWeek(f, week, t, town.listIn(m, week))) continue;
            long truck = prices.truck();
            all += prices.netWages() - truck + truck * 100 / (100 + Math.max(0, town.overOf(m)));
        }
        if (!parish) return all;
        return Math.max(0, (long) parishScale * town.headsOf(k) - all);
    }

    public boolean number(int what, int n) {
        if (what == 0 && within(n, 0, 1000)) {
            parishScale = n;
            return true;
        }
        if (what == 1 && within(n, 0, 100)) {
            waste = n;
            return true;
        }
        if (what == 2 && within(n, 0, 1000)) {
            fund.scale = n;
            return true;
        }
        if (what < 10 || !town.hasMaster(what - 10) || !within(n, 0, 200)) return false;
        town.setOver(what - 10, n);
        return true;
    }

    public int amiss(int e) {
        if (!entries.has(e)) return NONE;
        int yarn = entries.at(e, Entries.YARN);
        int hose = entries.at(e, Entries.HOSE);
        int allowed = (yarn * waste + 99) / 100;
        return hose > yarn || yarn - hose > allowed ? 1 : 0;
    }

    // ---- a bagman's book

    public boolean tells(int m, int week, int shape, int dozens) {
        if (!town.isBagman(m) || !within(week, 0, town.now)) return false;
        if (!within(shape, 0, 9) || !within(dozens, 0, 10000)) return false;
        return book.add(m, week, shape, dozens);
    }

    public int differs(int m, int i, int what) {
        if (!town.isBagman(m) || i < 0 || !within(what, 0, 3)) return NONE;
        int left = i;
        for (int week = 0; week <= town.now; week++) {
            for (int shape = 0; shape < SHAPES; shape++) {
                int said = book.dozens(m, week, shape);
                int made = dozensMade(m, week, shape);
                if (said == made) continue;
                if (left == 0) return chosen(what, week, shape, said, made);
                left--;
            }
        }
        return NONE;
    }

    // ---- the spread of an order, and other lists beside

    public long spread(int m, int shape, int dozens, int narrowings, int yarn, int price) {
        if (!town.hasMaster(m) || !within(shape, 0, 9) || !within(dozens, 0, Order.MOST_DOZENS)) return NO_GAIN;
        if (!within(narrowings, 0, 40) || !within(yarn, 0, 99) || !within(price, 0, 100000)) return NO_GAIN;
        order.isTold = true;
        order.master = m;
        order.shape = shape;
        order.dozens = dozens;
        order.narrowings = narrowings;
        order.yarn = yarn;
        order.price = price;
        fillGains();
        return order.findBest();
    }

    public int share(int f) {
        return order.shareOf(f);
    }

    public long judge(int n) {
        if (!order.isTold || n < 0 || n > tape.size) return NO_GAIN;
        fillGains();
        long gain = order.gainOfRow(tape, n);
        tape.wipe();
        return gain;
    }

    public long beside(int m, int l, int from, int to) {
        if (!town.hasMaster(m) || prices.listAt(l) == null) return NO_GAIN;
        if (from < 0 || from > to || to > town.now) return NO_GAIN;
        long all = 0;
        for (int f = 0; f < town.frames; f++) {
            if (town.masterOf(f) != m) continue;
            for (int week = from; week <= to; week++) {
                if (reckonWeek(f, week, town.now, l)) all += prices.netWages();
            }
        }
        return all;
    }

    // ---- lots, debts, the fund

    public int lot(int marks) {
        if (!within(marks, 0, 255)) return NONE;
        return lots.add(marks);
    }

    public boolean told(int l, int what) {
        if (!lots.has(l) || !within(what, 0, 2)) return false;
        lots.setKind(l, what);
        return true;
    }

    public int is(int l) {
        return lots.kindOf(l);
    }

    public boolean owes(int a, int b, int pence) {
        if (a == b || !isSomeone(a) || !isSomeone(b) || !within(pence, 1, 1000000)) return false;
        debts.add(a, b, pence);
        return true;
    }

    public long net(int a) {
        return isSomeone(a) ? debts.balanceOf(a) : 0;
    }

    public int payments() {
        return debts.fewestPayments();
    }

    public boolean clear() {
        return debts.payAll();
    }

    public int fund(int pence) {
        if (!within(pence, 1, 1000000)) return NONE;
        return fund.add(pence);
    }

    public boolean strike(int k, boolean is) {
        if (!town.hasKnitter(k) || fund.isStriker(k) == is) return false;
        fund.setStriker(k, is);
        return true;
    }

    public int lasts() {
        return fund.wholeWeeks(town);
    }

    public int goes() {
        if (town.now >= WEEKS - 1) return NONE;
        int paid = fund.payWeek(town);
        town.now++;
        return paid;
    }

    // ---- looking

    public int look(int e, int what) {
        return entries.at(e, what);
    }

    public int count(int what) {
        switch (what) {
            case 0:
                return town.now;
            case 1:
                return town.masters;
            case 2:
                return town.knitters;
            case 3:
                return town.frames;
            case 4:
                return prices.lists;
            case 5:
                return prices.acts;
            case 6:
                return entries.size;
            case 7:
                return lots.size;
            case 8:
                return fund.pence;
            case 9:
                return fund.strikers();
            case 10:
                return tape.size;
            case 11:
                return book.size;
            default:
                return countOf(what);
        }
    }

    private int countOf(int what) {
        if (what >= 20 && what < 40) return town.holderAt(what - 20, town.now);
        Sheet sheet = what < 40 ? null : prices.listAt(what - 40);
        return sheet == null ? NONE : sheet.formulas;
    }

    // ---- what several promises share

    private static boolean within(int n, int least, int most) {
        return n >= least && n <= most;
    }

    private static boolean isWeek(int week) {
        return week >= 0 && week < WEEKS;
    }

    private static int chosen(int what, int first, int second, int third, int fourth) {
        if (what == 0) return first;
        if (what == 1) return second;
        return what == 2 ? third : fourth;
    }

    private boolean isSomeone(int a) {
        if (a < 0) return false;
        return a < Town.MASTERS ? town.hasMaster(a) : town.hasKnitter(a - Town.MASTERS);
    }

    private int dozensMade(int m, int week, int shape) {
        int all = 0;
        for (int f = 0; f < town.frames; f++) {
            int e = entries.knownAt(f, week, town.now);
            if (town.masterOf(f) == m && entries.at(e, Entries.SHAPE) == shape) all += entries.at(e, Entries.DOZENS);
        }
        return all;
    }

    private int idleWeeks(int f, int week, int t) {
        int k = town.holderAt(f, week);
        if (k == NONE) return 0;
        int idle = 0;
        for (int w = week; w >= 0; w--) {
            int e = entries.knownAt(f, w, t);
            boolean worked = e != NONE && entries.at(e, Entries.DOZENS) > 0;
            if (worked || town.holderAt(f, w) != k) break;
            idle++;
        }
        return idle;
    }

    /** Idle weeks with this one, whatever its entry tells: an order looks at a week yet to be worked. */
    private int idleIfNothingNow(int f) {
        int before = town.now - 1;
        if (before < 0 || town.holderAt(f, before) != town.holderAt(f, town.now)) return 1;
        return 1 + idleWeeks(f, before, town.now);
    }

    private void setFactsOfFrame(int f, int week) {
        int k = town.holderAt(f, week);
        prices.setFact(Prices.GAUGE, town.gaugeOf(f));
        prices.setFact(Prices.HIRED, town.framesHeld(k, week));
        prices.setFact(Prices.HEADS, town.headsOf(k));
        prices.setFact(Prices.OWNER, town.kindOfOwner(f));
        prices.setFact(Prices.WEEK, week);
    }

    /** Reckons a week by list l (or NONE); false if nobody had the frame, and then nothing is due. */
    private boolean reckonWeek(int f, int week, int t, int l) {
        if (town.holderAt(f, week) == NONE) return false;
        int e = entries.knownAt(f, week, t);
        boolean none = e == NONE;
        setFactsOfFrame(f, week);
        prices.setFact(Prices.DOZENS, none ? 0 : entries.at(e, Entries.DOZENS));
        prices.setFact(Prices.SHAPE, none ? 0 : entries.at(e, Entries.SHAPE));
        prices.setFact(Prices.NARROWINGS, none ? 0 : entries.at(e, Entries.NARROWINGS));
        prices.setFact(Prices.YARN, none ? 0 : entries.at(e, Entries.YARN));
        prices.setFact(Prices.IDLE, idleWeeks(f, week, t));
        prices.reckonLetters(prices.listAt(l));
        prices.boundWorths(week, town.isOwn(f));
        return true;
    }

    private void fillGains() {
        int now = town.now;
        Sheet list = prices.listAt(town.listIn(order.master, now));
        order.frames = 0;
        for (int f = 0; f < town.frames && order.frames < Order.MOST_FRAMES; f++) {
            if (town.masterOf(f) != order.master || town.holderAt(f, now) == NONE) continue;
            setFactsOfFrame(f, now);
            prices.setFact(Prices.SHAPE, order.shape);
            for (int k = 0; k <= Order.MOST_EACH; k++) {
                prices.setFact(Prices.DOZENS, k);
                prices.setFact(Prices.NARROWINGS, k * order.narrowings);
                prices.setFact(Prices.YARN, k * order.yarn);
                prices.setFact(Prices.IDLE, k > 0 ? 0 : idleIfNothingNow(f));
                prices.reckonLetters(list);
                prices.boundWorths(now, town.isOwn(f));
                order.setGain(k, (long) k * order.price - prices.netWages());
            }
            order.addFrame(f);
        }
    }

    // ---- the parts

    /** The bytes that were fed and are not read yet. */
    private static final class Tape {
        private final byte[] bytes;
        private int size;

        Tape() {
            bytes = new byte[200];
            size = 0;
        }

        boolean hasRoomFor(int more) {
            return size + more <= bytes.length;
        }

        void putInt(int n) {
            putByte(n >>> 24);
            putByte(n >>> 16);
            putByte(n >>> 8);
            putByte(n);
        }

        private void putByte(int b) {
            if (size < 0 || size >= bytes.length) return;
            bytes[size] = (byte) b;
            size++;
        }

        int byteAt(int i) {
            if (i < 0 || i >= size || i >= bytes.length) return 0;
            return bytes[i] & 255;
        }

        int intAt(int i) {
            return byteAt(i) << 24 | byteAt(i + 1) << 16 | byteAt(i + 2) << 8 | byteAt(i + 3);
        }

        void wipe() {
            size = 0;
        }
    }

    /**
     * A LIST's or an ACT's text as read: its formulas as steps for a stack, one behind the other.
     * An ACT has one formula, for the letter that it bounds.
     */
    private static final class Sheet {
        private final char[] steps;
        private final int[] args;
        private int size;
        private int formulas;
        private final int[] letters;
        private final int[] places;
        private final int[] ends;
        private final int[] needs;
        private final int[] order;
        private int from;
        private int to;
        private boolean noLess;

        Sheet(int mostSteps) {
            int room = Math.max(0, mostSteps);
            steps = new char[room];
            args = new int[room];
            letters = new int[FORMULAS];
            places = new int[FORMULAS];
            ends = new int[FORMULAS];
            needs = new int[FORMULAS];
            order = new int[FORMULAS];
        }

        void empty() {
            size = 0;
            formulas = 0;
        }

        void put(char step, int arg) {
            if (size < 0 || size >= steps.length || size >= args.length) return;
            steps[size] = step;
            args[size] = arg;
            size++;
        }

        void begin(int letter, int place) {
            if (!hasRoom()) return;
            letters[formulas] = letter;
            places[formulas] = place;
            needs[formulas] = 0;
        }

        void need(int letter) {
            if (hasRoom()) needs[formulas] |= 1 << letter;
        }

        void end() {
            if (!hasRoom()) return;
            ends[formulas] = size;
            formulas++;
        }

        boolean hasRoom() {
            return formulas >= 0 && formulas < FORMULAS;
        }

        private boolean has(int formula) {
            return formula >= 0 && formula < formulas && formula < FORMULAS;
        }

        boolean hasFormula(int letter) {
            for (int i = 0; i < formulas; i++) {
                if (letterOf(i) == letter) return true;
            }
            return false;
        }

        int letterOf(int formula) {
            return has(formula) ? letters[formula] : NONE;
        }

        int startOf(int formula) {
            return has(formula - 1) ? ends[formula - 1] : 0;
        }

        int endOf(int formula) {
            return has(formula) ? ends[formula] : 0;
        }

        char stepAt(int i) {
            return i >= 0 && i < size && i < steps.length ? steps[i] : Prices.NUMBER;
        }

        int argAt(int i) {
            return i >= 0 && i < size && i < args.length ? args[i] : 0;
        }

        int inOrder(int i) {
            return has(i) ? order[i] : NONE;
        }

        private boolean doesNeed(int formula, int letter) {
            return has(formula) && (needs[formula] >> letter & 1) != 0;
        }

        /** Adds to what each formula needs what those need, till all is in. */
        void followNeeds() {
            for (int pass = 0; pass < formulas; pass++) {
                for (int i = 0; i < formulas && i < FORMULAS; i++) {
                    for (int j = 0; j < formulas && j < FORMULAS; j++) {
                        if (doesNeed(i, letters[j])) needs[i] |= needs[j];
                    }
                }
            }
        }

        /** The place of the first letter that needs itself; NONE without a ring. */
        int placeOfRing() {
            for (int i = 0; i < formulas && i < FORMULAS; i++) {
                if (doesNeed(i, letters[i])) return places[i];
            }
            return NONE;
        }

        /** Without a ring a formula needs more letters than any that it needs: so the fewest go first. */
        void putInOrder() {
            int done = 0;
            for (int needed = 0; needed <= 26; needed++) {
                for (int i = 0; i < formulas && i < FORMULAS; i++) {
                    if (Integer.bitCount(needs[i]) != needed || done >= FORMULAS) continue;
                    order[done] = i;
                    done++;
                }
            }
        }
    }

    /** Reads the text of a LIST or an ACT from the tape, up to its first fault. */
    private static final class Reader {
        private static final int END = -1;
        private static final int WRONG = 1;
        private static final int SEVENTH_DIGIT = 2;
        private static final int SECOND_FORMULA = 3;
        private static final int ELEVENTH_FORMULA = 4;
        private static final int SEVENTH_OPEN = 5;
        private static final int RING = 6;
        private static final int MOST_OPEN = 6;
        private static final int MOST_DIGITS = 6;

        private final Tape tape;
        private Sheet sheet;
        private int size;
        private int at;
        private int fault;
        private int place;

        Reader(Tape tape) {
            this.tape = tape;
            // never null, though nothing is read yet
            this.sheet = new Sheet(0);
        }

        /** 0, or the fault as the document tells it. */
        int readList(Sheet into, int n) {
            start(into, n);
            formula();
            for (int i = 0; i < size && next() == ';'; i++) {
                at++;
                formula();
            }
            expectEnd();
            if (fault == 0) findRing();
            return answer();
        }

        /** 0, or the fault as the document tells it. */
        int readAct(Sheet into, int n) {
            start(into, n);
            int c = next();
            if (c == 'W' || c == 'R' || c == 'C' || c == 'T') {
                sheet.begin(c - 'A', at);
                at++;
            } else {
                fail(WRONG);
            }
            boolean noLess = next() == '^';
            if (noLess || next() == '_') at++;
            else fail(WRONG);
            sheet.noLess = noLess;
            choice(0);
            sheet.end();
            expectEnd();
            return answer();
        }

        private void start(Sheet into, int n) {
            sheet = into;
            sheet.empty();
            size = n;
            at = 0;
            fault = 0;
            place = 0;
        }

        private int answer() {
            return fault == 0 ? 0 : -1000 * fault - place;
        }

        /** After a fault nothing more is read, so that the first one stays. */
        private int next() {
            return fault == 0 && at < size ? tape.byteAt(at) : END;
        }

        private void fail(int number) {
            if (fault != 0) return;
            fault = number;
            place = at;
        }

        private void expect(char c) {
            if (next() == c) at++;
            else fail(WRONG);
        }

        private void expectEnd() {
            if (at < size) fail(WRONG);
        }

        private void findRing() {
            sheet.followNeeds();
            int ring = sheet.placeOfRing();
            if (ring != NONE) {
                fault = RING;
                place = ring;
                return;
            }
            sheet.putInOrder();
        }

        private void formula() {
            int c = next();
            if (c < 'A' || c > 'Z') fail(WRONG);
            else if (sheet.hasFormula(c - 'A')) fail(SECOND_FORMULA);
            else if (!sheet.hasRoom()) fail(ELEVENTH_FORMULA);
            if (fault != 0) return;
            sheet.begin(c - 'A', at);
            at++;
            expect('=');
            choice(0);
            sheet.end();
        }

        private void choice(int open) {
            sum(open);
            int sign = next();
            if (sign != '<' && sign != '>' && sign != '=') return;
            at++;
            sum(open);
            if (next() != '?') {
                fail(WRONG);
                return;
            }
            if (open >= MOST_OPEN) {
                fail(SEVENTH_OPEN);
                return;
            }
            at++;
            choice(open + 1);
            expect(':');
            choice(open + 1);
            sheet.put((char) sign, 0);
        }

        private void sum(int open) {
            term(open);
            for (int i = 0; i < size; i++) {
                int sign = next();
                if (sign != '+' && sign != '-') return;
                at++;
                term(open);
                sheet.put((char) sign, 0);
            }
        }

        private void term(int open) {
            bound(open);
            for (int i = 0; i < size; i++) {
                int sign = next();
                if (sign != '*' && sign != '/' && sign != '%') return;
                at++;
                bound(open);
                sheet.put((char) sign, 0);
            }
        }

        private void bound(int open) {
            factor(open);
            for (int i = 0; i < size; i++) {
                int sign = next();
                if (sign != '_' && sign != '^') return;
                at++;
                factor(open);
                sheet.put((char) sign, 0);
            }
        }

        private void factor(int open) {
            int c = next();
            if (c == '(') {
                inBrackets(open);
            } else if (isDigit(c)) {
                digits();
            } else if (c >= 'A' && c <= 'Z') {
                sheet.put(Prices.LETTER, c - 'A');
                sheet.need(c - 'A');
                at++;
            } else {
                fact(c);
            }
        }

        private void inBrackets(int open) {
            if (open >= MOST_OPEN) {
                fail(SEVENTH_OPEN);
                return;
            }
            at++;
            choice(open + 1);
            expect(')');
        }

        private void fact(int c) {
            int which = c == END ? NONE : Prices.FACT_SIGNS.indexOf((char) c);
            if (which < 0) {
                fail(WRONG);
                return;
            }
            sheet.put(Prices.FACT, which);
            at++;
        }

        private void digits() {
            int n = 0;
            for (int i = 0; i < MOST_DIGITS && isDigit(next()); i++) {
                n = 10 * n + next() - '0';
                at++;
            }
            if (isDigit(next())) fail(SEVENTH_DIGIT);
            sheet.put(Prices.NUMBER, n);
        }

        private static boolean isDigit(int c) {
            return c >= '0' && c <= '9';
        }
    }

    /** The lists and acts, and what they come to with the facts that are set. */
    private static final class Prices {
        private static final int FACTS = 10;
        private static final String FACT_SIGNS = "gdsnyfhiow";
        private static final int GAUGE = 0;
        private static final int DOZENS = 1;
        private static final int SHAPE = 2;
        private static final int NARROWINGS = 3;
        private static final int YARN = 4;
        private static final int HIRED = 5;
        private static final int HEADS = 6;
        private static final int IDLE = 7;
        private static final int OWNER = 8;
        private static final int WEEK = 9;

        // steps that are no sign of the text
        private static final char NUMBER = '0';
        private static final char LETTER = 'A';
        private static final char FACT = 'f';

        private static final int MOST = 10;
        private static final long MOST_WORTH = 1000000000L;

        private final Sheet[] listSheets;
        private final Sheet[] actSheets;
        private int lists;
        private int acts;
        private final long[] facts;
        private final long[] letters;
        private final long[] worths;
        private final long[] stack;
        private int top;

        Prices() {
            listSheets = new Sheet[MOST];
            actSheets = new Sheet[MOST];
            for (int i = 0; i < MOST; i++) {
                listSheets[i] = new Sheet(200);
                actSheets[i] = new Sheet(60);
            }
            facts = new long[FACTS];
            letters = new long[26];
            worths = new long[26];
            stack = new long[200];
        }

        /** The sheet for a further list; null if there is none. */
        Sheet nextList() {
            return lists >= 0 && lists < listSheets.length ? listSheets[lists] : null;
        }

        Sheet nextAct() {
            return acts >= 0 && acts < actSheets.length ? actSheets[acts] : null;
        }

        int keepList() {
            lists++;
            return lists - 1;
        }

        int keepAct() {
            acts++;
            return acts - 1;
        }

        /** List l; null if there is no such one. */
        Sheet listAt(int l) {
            return l >= 0 && l < lists && l < listSheets.length ? listSheets[l] : null;
        }

        private Sheet actAt(int a) {
            return a >= 0 && a < acts && a < actSheets.length ? actSheets[a] : null;
        }

        void setFact(int which, int n) {
            if (which >= 0 && which < facts.length) facts[which] = n;
        }

        private long factAt(int which) {
            return which >= 0 && which < facts.length ? facts[which] : 0;
        }

        long letterAt(int x) {
            return x >= 0 && x < letters.length ? letters[x] : 0;
        }

        /** What the letters of a list (null: none) are worth, unbounded. */
        void reckonLetters(Sheet list) {
            for (int x = 0; x < letters.length; x++) letters[x] = 0;
            if (list == null) return;
            for (int i = 0; i < list.formulas; i++) {
                int formula = list.inOrder(i);
                int x = list.letterOf(formula);
                long worth = reckon(list, formula);
                if (x >= 0 && x < letters.length) letters[x] = worth;
            }
        }

        /** What W, R, C and T are worth in a week as bounded, the letters of its list being reckoned. */
        void boundWorths(int week, boolean ownFrame) {
            for (int x = 0; x < worths.length; x++) worths[x] = letterAt(x);
            for (int a = 0; a < acts; a++) {
                Sheet act = actAt(a);
                if (act != null && act.from <= week && week <= act.to) boundBy(act);
            }
            if (ownFrame) worths['R' - 'A'] = 0;
        }

        private void boundBy(Sheet act) {
            int x = act.letterOf(0);
            if (x < 0 || x >= worths.length) return;
            long limit = reckon(act, 0);
            worths[x] = act.noLess ? Math.max(worths[x], limit) : Math.min(worths[x], limit);
        }

        private long worthOf(int x) {
            long worth = x >= 0 && x < worths.length ? worths[x] : 0;
            return Math.min(MOST_WORTH, Math.max(0, worth));
        }

        long wages() {
            return worthOf('W' - 'A');
        }

        long rent() {
            return worthOf('R' - 'A');
        }

        long charges() {
            return worthOf('C' - 'A');
        }

        long netWages() {
            return wages() - rent() - charges();
        }

        long truck() {
            return Math.max(0, Math.min(worthOf('T' - 'A'), netWages()));
        }

        private long reckon(Sheet sheet, int formula) {
            int end = sheet.endOf(formula);
            top = 0;
            for (int i = sheet.startOf(formula); i < end; i++) doStep(sheet.stepAt(i), sheet.argAt(i));
            return pop();
        }

        private void push(long n) {
            if (top < 0 || top >= stack.length) return;
            stack[top] = n;
            top++;
        }

        private long pop() {
            if (top <= 0 || top > stack.length) return 0;
            top--;
            return stack[top];
        }

        private void doStep(char step, int arg) {
            switch (step) {
                case NUMBER:
                    push(arg);
                    return;
                case LETTER:
                    push(letterAt(arg));
                    return;
                case FACT:
                    push(factAt(arg));
                    return;
                default:
                    break;
            }
            // of a choice these two are its second and its first: to reckon one too many changes nothing
            long right = pop();
            long left = pop();
            if (step != '<' && step != '>' && step != '=') {
                push(joined(step, left, right));
                return;
            }
            long compared = pop();
            push(isSo(step, pop(), compared) ? left : right);
        }

        private static boolean isSo(char sign, long left, long right) {
            if (sign == '<') return left < right;
            if (sign == '>') return left > right;
            return left == right;
        }

        private static long joined(char sign, long left, long right) {
            switch (sign) {
                case '+':
                    return left + right;
                case '-':
                    return left - right;
                case '*':
                    return left * right;
                case '/':
                    return right == 0 ? 0 : left / right;
                case '%':
                    return right == 0 ? 0 : left % right;
                case '_':
                    return Math.min(left, right);
                default:
                    return Math.max(left, right);
            }
        }
    }

    /** Masters, knitters and frames, and week by week who had a frame and which list was a master's. */
    private static final class Town {
        private static final int MASTERS = 6;
        private static final int KNITTERS = 12;
        private static final int FRAMES = 16;

        private int now;
        private int masters;
        private int knitters;
        private int frames;
        private final int[] houses;
        private final int[] overs;
        private final int[] heads;
        private final int[] gauges;
        private final int[] frameMasters;
        private final int[] owners;
        private final int[][] holders;
        private final int[][] listsInUse;

        Town() {
            houses = new int[MASTERS];
            overs = new int[MASTERS];
            heads = new int[KNITTERS];
            gauges = new int[FRAMES];
            frameMasters = new int[FRAMES];
            owners = new int[FRAMES];
            holders = new int[FRAMES][WEEKS];
            listsInUse = new int[MASTERS][WEEKS];
            for (int m = 0; m < MASTERS; m++) fill(listsInUse[m], 0, NONE);
        }

        private static void fill(int[] weeks, int from, int n) {
            if (weeks == null || from < 0) return;
            for (int week = from; week < weeks.length; week++) weeks[week] = n;
        }

        boolean hasMaster(int m) {
            return m >= 0 && m < masters && m < MASTERS;
        }

        boolean hasKnitter(int k) {
            return k >= 0 && k < knitters && k < KNITTERS;
        }

        boolean hasFrame(int f) {
            return f >= 0 && f < frames && f < FRAMES;
        }

        boolean isHouse(int m) {
            return hasMaster(m) && houses[m] == NONE;
        }

        boolean isBagman(int m) {
            return hasMaster(m) && houses[m] != NONE;
        }

        boolean isOwn(int f) {
            return hasFrame(f) && owners[f] != NONE;
        }

        boolean isForHire(int f) {
            return hasFrame(f) && owners[f] == NONE;
        }

        int addMaster(int house) {
            if (masters < 0 || masters >= MASTERS) return NONE;
            houses[masters] = house;
            masters++;
            return masters - 1;
        }

        int addKnitter(int ownHeads) {
            if (knitters < 0 || knitters >= KNITTERS) return NONE;
            heads[knitters] = ownHeads;
            knitters++;
            return knitters - 1;
        }

        /** An own frame is held through all weeks: the document has it hired always. */
        int addFrame(int gauge, int m, int owner) {
            if (frames < 0 || frames >= FRAMES) return NONE;
            gauges[frames] = gauge;
            frameMasters[frames] = m;
            owners[frames] = owner;
            fill(holders[frames], 0, owner);
            frames++;
            return frames - 1;
        }

        /** What holds from now on fills the weeks to come, till a later change fills them anew. */
        void holdFromNow(int f, int k) {
            if (hasFrame(f)) fill(holders[f], now, k);
        }

        void listFromNow(int m, int l) {
            if (hasMaster(m)) fill(listsInUse[m], now, l);
        }

        int holderAt(int f, int week) {
            return hasFrame(f) && isWeek(week) ? holders[f][week] : NONE;
        }

        int listIn(int m, int week) {
            return hasMaster(m) && isWeek(week) ? listsInUse[m][week] : NONE;
        }

        int framesHeld(int k, int week) {
            int held = 0;
            for (int f = 0; f < frames; f++) {
                if (holderAt(f, week) == k) held++;
            }
            return held;
        }

        int gaugeOf(int f) {
            return hasFrame(f) ? gauges[f] : 0;
        }

        int masterOf(int f) {
            return hasFrame(f) ? frameMasters[f] : NONE;
        }

        int headsOf(int k) {
            return hasKnitter(k) ? heads[k] : 0;
        }

        int overOf(int m) {
            return hasMaster(m) ? overs[m] : 0;
        }

        void setOver(int m, int n) {
            if (hasMaster(m)) overs[m] = n;
        }

        /** 0 a house, 1 a bagman, 2 the knitter. */
        int kindOfOwner(int f) {
            if (isOwn(f)) return 2;
            return isBagman(masterOf(f)) ? 1 : 0;
        }
    }

    /** What was told of the frames' work; of a frame's week each entry leads to the one before it. */
    private static final class Entries {
        private static final int MOST = 300;
        private static final int FRAME = 0;
        private static final int WEEK = 1;
        private static final int SHAPE = 2;
        private static final int DOZENS = 3;
        private static final int NARROWINGS = 4;
        private static final int YARN = 5;
        private static final int HOSE = 6;
        private static final int TOLD = 7;
        private static final int COLUMNS = 8;

        private int size;
        private final int[][] columns;
        private final int[] before;
        private final int[][] latest;

        Entries() {
            columns = new int[COLUMNS][MOST];
            before = new int[MOST];
            latest = new int[Town.FRAMES][WEEKS];
            for (int f = 0; f < Town.FRAMES; f++) {
                for (int week = 0; week < WEEKS; week++) latest[f][week] = NONE;
            }
        }

        boolean has(int e) {
            return e >= 0 && e < size && e < MOST;
        }

        private static boolean isFramesWeek(int f, int week) {
            return f >= 0 && f < Town.FRAMES && isWeek(week);
        }

        /** A further entry of a frame's week; NONE if there is no room. */
        int open(int f, int week, int told) {
            if (size < 0 || size >= MOST || !isFramesWeek(f, week)) return NONE;
            int e = size;
            size++;
            put(e, FRAME, f);
            put(e, WEEK, week);
            put(e, TOLD, told);
            before[e] = latest[f][week];
            latest[f][week] = e;
            return e;
        }

        void put(int e, int column, int n) {
            if (has(e) && column >= 0 && column < COLUMNS) columns[column][e] = n;
        }

        int at(int e, int column) {
            return has(e) && column >= 0 && column < COLUMNS ? columns[column][e] : NONE;
        }

        /** The entry of a frame's week as known at week t, or NONE. */
        int knownAt(int f, int week, int t) {
            if (!isFramesWeek(f, week)) return NONE;
            int e = latest[f][week];
            for (int i = 0; i < MOST; i++) {
                if (!has(e) || columns[TOLD][e] <= t) break;
                e = before[e];
            }
            return e;
        }
    }

    /** What bagmen tell their houses; in a week each telling leads to the one before it. */
    private static final class BagmanBook {
        private static final int MOST = 200;

        private int size;
        private final int[] masters;
        private final int[] shapes;
        private final int[] dozens;
        private final int[] before;
        private final int[] latest;

        BagmanBook() {
            masters = new int[MOST];
            shapes = new int[MOST];
            dozens = new int[MOST];
            before = new int[MOST];
            latest = new int[WEEKS];
            for (int week = 0; week < WEEKS; week++) latest[week] = NONE;
        }

        private boolean has(int i) {
            return i >= 0 && i < size && i < MOST;
        }

        boolean add(int m, int week, int shape, int n) {
            if (size < 0 || size >= MOST || !isWeek(week)) return false;
            masters[size] = m;
            shapes[size] = shape;
            dozens[size] = n;
            before[size] = latest[week];
            latest[week] = size;
            size++;
            return true;
        }

        int dozens(int m, int week, int shape) {
            int i = isWeek(week) ? latest[week] : NONE;
            for (int steps = 0; steps < MOST && has(i); steps++) {
                if (masters[i] == m && shapes[i] == shape) return dozens[i];
                i = before[i];
            }
            return 0;
        }
    }

    /** The order told last, what each of its frames gains with so many dozens, and the best spread found last. */
    private static final class Order {
        private static final int MOST_FRAMES = 10;
        private static final int MOST_EACH = 24;
        private static final int MOST_DOZENS = 60;

        private boolean isTold;
        private int master;
        private int shape;
        private int dozens;
        private int narrowings;
        private int yarn;
        private int price;
        private int frames;
        private final int[] numbers;
        private final long[][] gains;
        private final long[][] best;
        private final int[] shares;

        Order() {
            numbers = new int[MOST_FRAMES];
            gains = new long[MOST_FRAMES][MOST_EACH + 1];
            best = new long[MOST_FRAMES + 1][MOST_DOZENS + 1];
            shares = new int[Town.FRAMES];
        }

        private boolean hasRoom() {
            return frames >= 0 && frames < MOST_FRAMES;
        }

        /** What the next frame to be added gains with k dozens. */
        void setGain(int k, long gain) {
            if (hasRoom() && k >= 0 && k <= MOST_EACH) gains[frames][k] = gain;
        }

        void addFrame(int f) {
            if (!hasRoom()) return;
            numbers[frames] = f;
            frames++;
        }

        private long gainAt(int i, int k) {
            boolean is = i >= 0 && i < frames && i < MOST_FRAMES && k >= 0 && k <= MOST_EACH;
            return is ? gains[i][k] : NO_GAIN;
        }

        /** The most that the frames from i on gain with so many dozens in all. */
        private long bestAt(int i, int left) {
            boolean is = i >= 0 && i <= frames && i <= MOST_FRAMES && left >= 0 && left <= MOST_DOZENS;
            return is ? best[i][left] : NO_GAIN;
        }

        private long gainWith(int i, int left, int k) {
            long rest = bestAt(i + 1, left - k);
            return rest == NO_GAIN ? NO_GAIN : gainAt(i, k) + rest;
        }

        private void fillBest() {
            int last = Math.max(0, Math.min(frames, MOST_FRAMES));
            int all = Math.max(0, Math.min(dozens, MOST_DOZENS));
            for (int left = 0; left <= all; left++) best[last][left] = left == 0 ? 0 : NO_GAIN;
            for (int i = last - 1; i >= 0; i--) {
                for (int left = 0; left <= all; left++) {
                    long most = NO_GAIN;
                    for (int k = 0; k <= MOST_EACH && k <= left; k++) most = Math.max(most, gainWith(i, left, k));
                    best[i][left] = most;
                }
            }
        }

        long findBest() {
            fillBest();
            long most = bestAt(0, dozens);
            if (most != NO_GAIN) shareOut();
            return most;
        }

        /** Each frame in turn takes the fewest dozens that still lead to the most: that is the least row. */
        private void shareOut() {
            for (int f = 0; f < shares.length; f++) shares[f] = 0;
            int left = dozens;
            for (int i = 0; i < frames && i < MOST_FRAMES; i++) {
                int k = fewest(i, left);
                int f = numbers[i];
                if (f >= 0 && f < shares.length) shares[f] = k;
                left -= k;
            }
        }

        private int fewest(int i, int left) {
            long most = bestAt(i, left);
            for (int k = 0; k <= MOST_EACH && k <= left; k++) {
                if (gainWith(i, left, k) == most) return k;
            }
            return 0;
        }

        int shareOf(int f) {
            return f >= 0 && f < shares.length ? shares[f] : 0;
        }

        /** Gain of the row that the first n bytes of the tape tell; NO_GAIN if they are none. */
        long gainOfRow(Tape tape, int n) {
            if (n != frames) return NO_GAIN;
            long gain = 0;
            int all = 0;
            for (int i = 0; i < n; i++) {
                int k = tape.byteAt(i);
                if (k > MOST_EACH) return NO_GAIN;
                gain += gainAt(i, k);
                all += k;
            }
            return all == dozens ? gain : NO_GAIN;
        }
    }

    /** Lots of stockings: 1 wrought, 2 cut, 0 not told. */
    private static final class Lots {
        private static final int MOST = 40;

        private int size;
        private final int[] marks;
        private final int[] kinds;

        Lots() {
            marks = new int[MOST];
            kinds = new int[MOST];
        }

        boolean has(int l) {
            return l >= 0 && l < size && l < MOST;
        }

        int add(int newMarks) {
            if (size < 0 || size >= MOST) return NONE;
            marks[size] = newMarks;
            size++;
            return size - 1;
        }

        void setKind(int l, int kind) {
            if (has(l)) kinds[l] = kind;
        }

        /** As told, or the kinds of the nearest that are told, as bits: 1 and 2 together are both. */
        int kindOf(int l) {
            if (!has(l)) return NONE;
            if (kinds[l] != 0) return kinds[l];
            int nearest = 9;
            int found = 0;
            for (int i = 0; i < size && i < MOST; i++) {
                if (kinds[i] == 0) continue;
                int far = Integer.bitCount(marks[i] ^ marks[l]);
                if (far < nearest) found = 0;
                if (far <= nearest) found |= kinds[i];
                nearest = Math.min(nearest, far);
            }
            return found;
        }
    }

    /** Who has to get and to give how much: masters first, then knitters. */
    private static final class Debts {
        private static final int ALL = Town.MASTERS + Town.KNITTERS;
        private static final int MOST_UNEVEN = 12;

        private boolean areSome;
        private final long[] balances;
        private final long[] uneven;
        private final long[] sums;
        private final int[] groups;

        Debts() {
            balances = new long[ALL];
            uneven = new long[MOST_UNEVEN];
            sums = new long[1 << MOST_UNEVEN];
            groups = new int[1 << MOST_UNEVEN];
        }

        private static boolean isOne(int a) {
            return a >= 0 && a < ALL;
        }

        void add(int from, int to, int pence) {
            if (!isOne(from) || !isOne(to)) return;
            balances[from] -= pence;
            balances[to] += pence;
            areSome = true;
        }

        long balanceOf(int a) {
            return isOne(a) ? balances[a] : 0;
        }

        boolean payAll() {
            if (!areSome) return false;
            for (int a = 0; a < ALL; a++) balances[a] = 0;
            areSome = false;
            return true;
        }

        int fewestPayments() {
            int n = 0;
            for (int a = 0; a < ALL; a++) {
                if (balances[a] == 0) continue;
                if (n >= MOST_UNEVEN) return NONE;
                uneven[n] = balances[a];
                n++;
            }
            return n - mostGroups(n);
        }

        /**
         * Into how many groups that come to 0 the first n can be parted: taken one by one in the
         * right order, as often as what is taken comes to 0.
         */
        private int mostGroups(int n) {
            if (n < 0 || n > MOST_UNEVEN) return 0;
            int all = (1 << n) - 1;
            sums[0] = 0;
            groups[0] = 0;
            for (int set = 1; set <= all; set++) takeSet(set, n);
            return groups[all];
        }

        private void takeSet(int set, int n) {
            int most = 0;
            for (int i = 0; i < n && i < MOST_UNEVEN; i++) {
                int rest = set & ~(1 << i);
                if (rest == set || rest < 0 || rest >= groups.length) continue;
                most = Math.max(most, groups[rest]);
                if (set >= 0 && set < sums.length) sums[set] = sums[rest] + uneven[i];
            }
            if (set < 0 || set >= groups.length) return;
            groups[set] = sums[set] == 0 ? most + 1 : most;
        }
    }

    /** The fund that strikes are paid from. */
    private static final class Fund {
        private static final int MOST_PENCE = 1000000000;

        private int pence;
        private int scale;
        private final boolean[] striking;

        Fund() {
            striking = new boolean[Town.KNITTERS];
        }

        int add(int more) {
            if (more > MOST_PENCE - pence) return NONE;
            pence += more;
            return pence;
        }

        boolean isStriker(int k) {
            return k >= 0 && k < striking.length && striking[k];
        }

        void setStriker(int k, boolean is) {
            if (k >= 0 && k < striking.length) striking[k] = is;
        }

        int strikers() {
            int all = 0;
            for (int k = 0; k < striking.length; k++) {
                if (striking[k]) all++;
            }
            return all;
        }

        private int dueTo(int k, Town town) {
            return isStriker(k) ? scale * town.headsOf(k) : 0;
        }

        int wholeWeeks(Town town) {
            int due = 0;
            for (int k = 0; k < striking.length; k++) due += dueTo(k, town);
            return due <= 0 ? NONE : pence / due;
        }

        /** Pays who can be paid wholly; who can't be gets nothing, but may stand ahead of one who can. */
        int payWeek(Town town) {
            int paid = 0;
            for (int k = 0; k < striking.length; k++) {
                int due = dueTo(k, town);
                if (due > pence) continue;
                pence -= due;
                paid += due;
            }
            return paid;
        }
    }
}
