import java.util.ArrayDeque;
import java.util.ArrayList;
import java.util.Deque;
import java.util.HashMap;
import java.util.List;
import java.util.Map;

/**
 * The document once more, slowly: logs of what was told, and every answer reckoned anew from them.
 * Texts are kept as texts; they are checked by a table of states and reckoned by cutting them apart.
 */
final class Model {
    static final int NONE = -1;
    static final long NO_GAIN = -1000000000000L;

    int now = 0;
    final List<Integer> tape = new ArrayList<>();
    final List<int[]> masters = new ArrayList<>();   // house, over
    final List<Integer> knitters = new ArrayList<>();
    final List<int[]> frames = new ArrayList<>();    // gauge, master, owner
    final List<int[]> hires = new ArrayList<>();     // frame, week, knitter
    final List<String> lists = new ArrayList<>();
    final List<String> acts = new ArrayList<>();
    final List<int[]> actWeeks = new ArrayList<>();
    final List<int[]> uses = new ArrayList<>();      // master, week, list
    final List<int[]> entries = new ArrayList<>();   // as look() has them
    final List<int[]> book = new ArrayList<>();      // master, week, shape, dozens
    final List<int[]> lots = new ArrayList<>();      // marks, what
    final List<int[]> debts = new ArrayList<>();     // from, to, pence
    final List<Integer> strikers = new ArrayList<>();
    int[] order = null;                              // master, shape, dozens, narrowings, yarn, price
    Map<Integer, Integer> shares = new HashMap<>();
    int parishScale = 0;
    int waste = 5;
    int strikeScale = 0;
    int pence = 0;

    private static boolean in(long n, long least, long most) {
        return least <= n && n <= most;
    }

    // ---- promises 2 to 6

    int master(int house) {
        if (masters.size() == 6) return NONE;
        if (house != NONE && !(in(house, 0, masters.size() - 1) && masters.get(house)[0] == NONE)) return NONE;
        masters.add(new int[] {house, 0});
        return masters.size() - 1;
    }

    int knitter(int heads) {
        if (knitters.size() == 12 || !in(heads, 1, 9)) return NONE;
        knitters.add(heads);
        return knitters.size() - 1;
    }

    int frame(int gauge, int m, int k) {
        if (frames.size() == 16 || !in(gauge, 10, 40) || !isMaster(m) || !(k == NONE || isKnitter(k))) return NONE;
        frames.add(new int[] {gauge, m, k});
        return frames.size() - 1;
    }

    boolean isMaster(int m) {
        return in(m, 0, masters.size() - 1);
    }

    boolean isKnitter(int k) {
        return in(k, 0, knitters.size() - 1);
    }

    boolean isFrame(int f) {
        return in(f, 0, frames.size() - 1);
    }

    boolean isBagman(int m) {
        return isMaster(m) && masters.get(m)[0] != NONE;
    }

    int holder(int f, int week) {
        if (frames.get(f)[2] != NONE) return frames.get(f)[2];
        int holder = NONE;
        for (int[] hire : hires) if (hire[0] == f && hire[1] <= week) holder = hire[2];
        return holder;
    }

    boolean hire(int f, int k) {
        if (!isFrame(f) || !isKnitter(k) || frames.get(f)[2] != NONE || holder(f, now) != NONE) return false;
        hires.add(new int[] {f, now, k});
        return true;
    }

    boolean back(int f) {
        if (!isFrame(f) || frames.get(f)[2] != NONE || holder(f, now) == NONE) return false;
        hires.add(new int[] {f, now, NONE});
        return true;
    }

    // ---- promises 7 to 12

    int feed(int... ints) {
        if (tape.size() + 20 > 200) return NONE;
        for (int n : ints) for (int shift = 24; shift >= 0; shift -= 8) tape.add(n >> shift & 255);
        return tape.size();
    }

    private String text(int n) {
        StringBuilder text = new StringBuilder();
        for (int i = 0; i < n; i++) text.append((char) (int) tape.get(i));
        return text.toString();
    }

    int list(int n) {
        if (!in(n, 1, 200) || lists.size() == 10 || tape.size() < n) return NONE;
        String text = text(n);
        tape.clear();
        int fault = faultOfList(text);
        if (fault != 0) return fault;
        lists.add(text);
        return lists.size() - 1;
    }

    int act(int from, int to, int n) {
        if (!in(n, 1, 60) || !in(from, 0, 519) || !in(to, from, 519) || acts.size() == 10 || tape.size() < n) return NONE;
        String text = text(n);
        tape.clear();
        int fault = faultOfAct(text);
        if (fault != 0) return fault;
        acts.add(text);
        actWeeks.add(new int[] {from, to});
        return acts.size() - 1;
    }

    private static int fault(int number, int place) {
        return -1000 * number - place;
    }

    static int faultOfList(String text) {
        int at = 0;
        StringBuilder heads = new StringBuilder();
        List<Integer> places = new ArrayList<>();
        while (true) {
            char c = at < text.length() ? text.charAt(at) : 0;
            if (!in(c, 'A', 'Z')) return fault(1, at);
            if (heads.indexOf("" + c) >= 0) return fault(3, at);
            if (heads.length() == 10) return fault(4, at);
            heads.append(c);
            places.add(at);
            at++;
            if (at >= text.length() || text.charAt(at) != '=') return fault(1, at);
            int end = endOrFault(text, at + 1);
            if (end < 0) return end;
            if (end == text.length()) break;
            if (text.charAt(end) != ';') return fault(1, end);
            at = end + 1;
        }
        Map<Character, String> formulas = formulasOf(text);
        for (int i = 0; i < heads.length(); i++) {
            if (reaches(formulas, heads.charAt(i), heads.charAt(i), 0)) return fault(6, places.get(i));
        }
        return 0;
    }

    /** Whether one letter's formula leads to another one in at most ten steps, which is as far as ten formulas go. */
    private static boolean reaches(Map<Character, String> formulas, char from, char to, int steps) {
        String seen = "";
        List<Character> todo = new ArrayList<>();
        todo.add(from);
        while (!todo.isEmpty()) {
            String body = formulas.get(todo.remove(0));
            if (body == null) continue;
            for (char c : body.toCharArray()) {
                if (!in(c, 'A', 'Z')) continue;
                if (c == to) return true;
                if (seen.indexOf(c) < 0) todo.add(c);
                seen += c;
            }
        }
        return false;
    }

    static int faultOfAct(String text) {
        if ("WRCT".indexOf(text.charAt(0)) < 0) return fault(1, 0);
        if (text.length() < 2 || "_^".indexOf(text.charAt(1)) < 0) return fault(1, 1);
        int end = endOrFault(text, 2);
        if (end < 0) return end;
        return end == text.length() ? 0 : fault(1, end);
    }

    /** Where the E that starts there ends, at a ; or the end of the text; or the fault in it. */
    private static int endOrFault(String text, int start) {
        Deque<Character> open = new ArrayDeque<>();
        Deque<Boolean> signsOutside = new ArrayDeque<>();
        boolean wantsOperand = true;
        boolean sign = false;
        int digits = 0;
        for (int at = start; ; at++) {
            char c = at < text.length() ? text.charAt(at) : ';';
            if (in(c, '0', '9')) {
                if (!wantsOperand && digits == 0) return fault(1, at);
                digits++;
                if (digits > 6) return fault(2, at);
                wantsOperand = false;
                continue;
            }
            digits = 0;
            if (in(c, 'A', 'Z') || in(c, 'a', 'z') && "gdsnyfhiow".indexOf(c) >= 0) {
                if (!wantsOperand) return fault(1, at);
                wantsOperand = false;
            } else if (c == '(') {
                if (!wantsOperand) return fault(1, at);
                if (open.size() == 6) return fault(5, at);
                open.push('(');
                signsOutside.push(sign);
                sign = false;
            } else if (wantsOperand) {
                return fault(1, at);
            } else if ("+-*/%_^".indexOf(c) >= 0) {
                wantsOperand = true;
            } else if ("<>=".indexOf(c) >= 0) {
                if (sign) return fault(1, at);
                sign = true;
                wantsOperand = true;
            } else if (c == '?') {
                if (!sign) return fault(1, at);
                if (open.size() == 6) return fault(5, at);
                open.push('?');
                sign = false;
                wantsOperand = true;
            } else if (c == ':' || c == ')' || c == ';') {
                if (sign) return fault(1, at);
                while (!open.isEmpty() && open.peek() == ':') open.pop();
                if (c == ';') return open.isEmpty() ? at : fault(1, at);
                char needed = c == ':' ? '?' : '(';
                if (open.isEmpty() || open.pop() != needed) return fault(1, at);
                if (c == ':') {
                    open.push(':');
                    wantsOperand = true;
                } else {
                    sign = signsOutside.pop();
                }
            } else {
                return fault(1, at);
            }
        }
    }

    static Map<Character, String> formulasOf(String text) {
        Map<Character, String> formulas = new HashMap<>();
        if (text == null) return formulas;
        for (String part : text.split(";")) formulas.put(part.charAt(0), part.substring(2));
        return formulas;
    }

    /** A list's letters with some facts, each reckoned when it is asked for. */
    private static final class Worths {
        final Map<Character, String> formulas;
        final long[] facts;
        final Map<Character, Long> known = new HashMap<>();

        Worths(String list, long[] facts) {
            this.formulas = formulasOf(list);
            this.facts = facts;
        }

        long letter(char c) {
            if (!formulas.containsKey(c)) return 0;
            if (!known.containsKey(c)) known.put(c, reckon(formulas.get(c)));
            return known.get(c);
        }

        /** The place of a sign outside of all brackets: the last one, or the first one behind a place. */
        private int find(String e, String signs, boolean last, int from) {
            int depth = 0;
            int found = -1;
            for (int i = 0; i < e.length(); i++) {
                char c = e.charAt(i);
                if (c == '(') depth++;
                if (c == ')') depth--;
                if (depth == 0 && i >= from && signs.indexOf(c) >= 0) {
                    found = i;
                    if (!last) return found;
                }
            }
            return found;
        }

        long reckon(String e) {
            int sign = find(e, "<>=", false, 0);
            if (sign >= 0) return choose(e, sign);
            for (String signs : new String[] {"+-", "*/%", "_^"}) {
                int at = find(e, signs, true, 0);
                if (at >= 0) return join(e.charAt(at), reckon(e.substring(0, at)), reckon(e.substring(at + 1)));
            }
            char c = e.charAt(0);
            if (c == '(') return reckon(e.substring(1, e.length() - 1));
            if (in(c, '0', '9')) return Long.parseLong(e);
            if (in(c, 'A', 'Z')) return letter(c);
            return facts["gdsnyfhiow".indexOf(c)];
        }

        private long choose(String e, int sign) {
            int question = find(e, "?", false, sign);
            int open = 1;
            int colon = question;
            while (open > 0) {
                colon = find(e, "?:", false, colon + 1);
                open += e.charAt(colon) == '?' ? 1 : -1;
            }
            int compared = Long.compare(reckon(e.substring(0, sign)), reckon(e.substring(sign + 1, question)));
            boolean is = e.charAt(sign) == '<' ? compared < 0 : e.charAt(sign) == '>' ? compared > 0 : compared == 0;
            return reckon(is ? e.substring(question + 1, colon) : e.substring(colon + 1));
        }

        private static long join(char sign, long a, long b) {
            if (sign == '+') return a + b;
            if (sign == '-') return a - b;
            if (sign == '*') return a * b;
            if (sign == '/') return b == 0 ? 0 : a / b;
            if (sign == '%') return b == 0 ? 0 : a % b;
            if (sign == '_') return a < b ? a : b;
            return a > b ? a : b;
        }
    }

    boolean uses(int m, int l) {
        if (!isMaster(m) || !in(l, 0, lists.size() - 1) || listOf(m, now) == l) return false;
        uses.add(new int[] {m, now, l});
        return true;
    }

    int listOf(int m, int week) {
        int list = NONE;
        if (!isMaster(m) || !in(week, 0, 519)) return NONE;
        for (int[] use : uses) if (use[0] == m && use[1] <= week) list = use[2];
        return list;
    }

    long worth(int l, int x) {
        if (!in(l, 0, lists.size() - 1) || !in(x, 0, 25) || tape.size() < 40) return 0;
        long[] facts = new long[10];
        for (int i = 0; i < 10; i++) {
            int n = 0;
            for (int j = 0; j < 4; j++) n = n * 256 + tape.get(4 * i + j);
            facts[i] = n;
        }
        tape.clear();
        return new Worths(lists.get(l), facts).letter((char) ('A' + x));
    }

    // ---- promises 13 to 17

    int entry(int f, int week, int shape, int dozens, int narrowings, int yarn, int hose) {
        boolean good = isFrame(f) && in(week, 0, now) && in(shape, 0, 9) && in(dozens, 0, 99) && in(narrowings, 0, 999)
            && in(yarn, 0, 9999) && in(hose, 0, 9999) && entries.size() < 300;
        if (!good) return NONE;
        entries.add(new int[] {f, week, shape, dozens, narrowings, yarn, hose, now});
        return entries.size() - 1;
    }

    int entryOf(int f, int week, int t) {
        int found = NONE;
        for (int e = 0; e < entries.size(); e++) {
            int[] entry = entries.get(e);
            if (entry[0] == f && entry[1] == week && entry[7] <= t) found = e;
        }
        return found;
    }

    int idle(int f, int week, int t) {
        int k = holder(f, week);
        if (k == NONE) return 0;
        for (int w = week; ; w--) {
            if (w < 0 || holder(f, w) != k) return week - w;
            int e = entryOf(f, w, t);
            if (e != NONE && entries.get(e)[3] > 0) return week - w;
        }
    }

    private long[] facts(int f, int week, long dozens, long shape, long narrowings, long yarn, long idle) {
        int k = holder(f, week);
        int held = 0;
        for (int g = 0; g < frames.size(); g++) if (holder(g, week) == k) held++;
        int owner = frames.get(f)[2] != NONE ? 2 : isBagman(frames.get(f)[1]) ? 1 : 0;
        return new long[] {frames.get(f)[0], dozens, shape, narrowings, yarn, held, knitters.get(k), idle, owner, week};
    }

    /** W, R, C, T as bounded. */
    private long[] worths(int f, int week, int l, long[] facts) {
        Worths list = new Worths(l == NONE ? null : lists.get(l), facts);
        long[] worths = new long[4];
        for (int i = 0; i < 4; i++) {
            char letter = "WRCT".charAt(i);
            long worth = list.letter(letter);
            for (int a = 0; a < acts.size(); a++) {
                String act = acts.get(a);
                if (act.charAt(0) != letter || !in(week, actWeeks.get(a)[0], actWeeks.get(a)[1])) continue;
                worth = Worths.join(act.charAt(1), worth, list.reckon(act.substring(2)));
            }
            worths[i] = worth < 0 ? 0 : worth > 1000000000 ? 1000000000 : worth;
        }
        if (frames.get(f)[2] != NONE) worths[1] = 0;
        return worths;
    }

    /** W, R, C, TRUCK, NET of a week; all 0 if nobody had the frame. */
    private long[] reckoned(int f, int week, int t, int l) {
        if (holder(f, week) == NONE) return new long[5];
        int e = entryOf(f, week, t);
        int[] entry = e == NONE ? new int[8] : entries.get(e);
        long[] facts = facts(f, week, entry[3], entry[2], entry[4], entry[5], idle(f, week, t));
        long[] w = worths(f, week, l, facts);
        long net = w[0] - w[1] - w[2];
        long truck = w[3] > net ? net : w[3];
        return new long[] {w[0], w[1], w[2], truck < 0 ? 0 : truck, net};
    }

    long week(int f, int week, int t, int what) {
        if (!isFrame(f) || !in(week, 0, 519) || !in(t, 0, 519) || !in(what, 0, 7)) return NONE;
        if (what == 5) return idle(f, week, t);
        if (what == 6) return holder(f, week);
        if (what == 7) return entryOf(f, week, t);
        return reckoned(f, week, t, listOf(frames.get(f)[1], week))[what];
    }

    long earned(int k, int week, int t, boolean parish) {
        if (!isKnitter(k) || !in(week, 0, 519) || !in(t, 0, 519)) return 0;
        long all = 0;
        for (int f = 0; f < frames.size(); f++) {
            if (holder(f, week) != k) continue;
            long truck = week(f, week, t, 3);
            all += week(f, week, t, 4) - truck + truck * 100 / (100 + masters.get(frames.get(f)[1])[1]);
        }
        long scale = (long) parishScale * knitters.get(k);
        return !parish ? all : all < scale ? scale - all : 0;
    }

    boolean number(int what, int n) {
        if (what == 0 && in(n, 0, 1000)) parishScale = n;
        else if (what == 1 && in(n, 0, 100)) waste = n;
        else if (what == 2 && in(n, 0, 1000)) strikeScale = n;
        else if (what >= 10 && isMaster(what - 10) && in(n, 0, 200)) masters.get(what - 10)[1] = n;
        else return false;
        return true;
    }

    int amiss(int e) {
        if (!in(e, 0, entries.size() - 1)) return NONE;
        int yarn = entries.get(e)[5];
        int hose = entries.get(e)[6];
        return hose > yarn || yarn - hose > Math.ceil(yarn * waste / 100.0) ? 1 : 0;
    }

    // ---- promises 18 and 19

    boolean tells(int m, int week, int shape, int dozens) {
        if (!isBagman(m) || !in(week, 0, now) || !in(shape, 0, 9) || !in(dozens, 0, 10000) || book.size() == 200) return false;
        book.add(new int[] {m, week, shape, dozens});
        return true;
    }

    int differs(int m, int i, int what) {
        if (!isBagman(m) || i < 0 || !in(what, 0, 3)) return NONE;
        List<int[]> all = new ArrayList<>();
        int[][] said = new int[now + 1][10];
        for (int[] told : book) if (told[0] == m) said[told[1]][told[2]] = told[3];
        int[][] made = new int[now + 1][10];
        for (int e = 0; e < entries.size(); e++) {
            int[] entry = entries.get(e);
            if (frames.get(entry[0])[1] == m && entryOf(entry[0], entry[1], now) == e) made[entry[1]][entry[2]] += entry[3];
        }
        for (int w = 0; w <= now; w++) {
            for (int s = 0; s < 10; s++) if (said[w][s] != made[w][s]) all.add(new int[] {w, s, said[w][s], made[w][s]});
        }
        return i < all.size() ? all.get(i)[what] : NONE;
    }

    // ---- promises 20 to 23

    private List<Integer> framesFor(int m) {
        List<Integer> found = new ArrayList<>();
        for (int f = 0; f < frames.size(); f++) {
            if (frames.get(f)[1] == m && holder(f, now) != NONE && found.size() < 10) found.add(f);
        }
        return found;
    }

    private long gain(int f, int k) {
        long idle = 0;
        if (k == 0) {
            idle = 1;
            int had = holder(f, now);
            if (now > 0 && holder(f, now - 1) == had) idle += idle(f, now - 1, now);
        }
        long[] w = worths(f, now, listOf(order[0], now), facts(f, now, k, order[1], k * order[3], k * order[4], idle));
        return (long) k * order[5] - w[0] + w[1] + w[2];
    }

    private static boolean isLess(int[] a, int[] b) {
        for (int i = 0; i < a.length; i++) if (a[i] != b[i]) return a[i] < b[i];
        return false;
    }

    long spread(int m, int shape, int dozens, int narrowings, int yarn, int price) {
        boolean good = isMaster(m) && in(shape, 0, 9) && in(dozens, 0, 60) && in(narrowings, 0, 40) && in(yarn, 0, 99)
            && in(price, 0, 100000);
        if (!good) return NO_GAIN;
        order = new int[] {m, shape, dozens, narrowings, yarn, price};
        List<Integer> row = framesFor(m);
        long[] gains = new long[61];
        int[][] rows = new int[61][];
        rows[0] = new int[row.size()];
        for (int i = 0; i < row.size(); i++) {
            long[] nextGains = new long[61];
            int[][] nextRows = new int[61][];
            for (int k = 0; k <= 24; k++) {
                long own = gain(row.get(i), k);
                for (int all = k; all <= 60; all++) {
                    if (rows[all - k] == null) continue;
                    int[] tried = rows[all - k].clone();
                    tried[i] = k;
                    long sum = gains[all - k] + own;
                    boolean better = nextRows[all] == null || sum > nextGains[all]
                        || sum == nextGains[all] && isLess(tried, nextRows[all]);
                    if (!better) continue;
                    nextRows[all] = tried;
                    nextGains[all] = sum;
                }
            }
            rows = nextRows;
            gains = nextGains;
        }
        if (rows[dozens] == null) return NO_GAIN;
        shares.clear();
        for (int i = 0; i < row.size(); i++) shares.put(row.get(i), rows[dozens][i]);
        return gains[dozens];
    }

    int share(int f) {
        return shares.getOrDefault(f, 0);
    }

    long judge(int n) {
        if (order == null || n < 0 || tape.size() < n) return NO_GAIN;
        List<Integer> row = new ArrayList<>(tape.subList(0, n));
        tape.clear();
        List<Integer> fs = framesFor(order[0]);
        if (fs.size() != n) return NO_GAIN;
        long all = 0;
        int dozens = 0;
        for (int i = 0; i < n; i++) {
            if (row.get(i) > 24) return NO_GAIN;
            dozens += row.get(i);
            all += gain(fs.get(i), row.get(i));
        }
        return dozens == order[2] ? all : NO_GAIN;
    }

    long beside(int m, int l, int from, int to) {
        if (!isMaster(m) || !in(l, 0, lists.size() - 1) || !in(from, 0, now) || !in(to, from, now)) return NO_GAIN;
        long all = 0;
        for (int w = from; w <= to; w++) {
            for (int f = 0; f < frames.size(); f++) if (frames.get(f)[1] == m) all += reckoned(f, w, now, l)[4];
        }
        return all;
    }

    // ---- promises 24 to 36

    int lot(int marks) {
        if (!in(marks, 0, 255) || lots.size() == 40) return NONE;
        lots.add(new int[] {marks, 0});
        return lots.size() - 1;
    }

    boolean told(int l, int what) {
        if (!in(l, 0, lots.size() - 1) || !in(what, 0, 2)) return false;
        lots.get(l)[1] = what;
        return true;
    }

    int is(int l) {
        if (!in(l, 0, lots.size() - 1)) return NONE;
        if (lots.get(l)[1] != 0) return lots.get(l)[1];
        for (int far = 0; far <= 8; far++) {
            boolean wrought = false;
            boolean cut = false;
            for (int[] lot : lots) {
                if (Integer.bitCount(lot[0] ^ lots.get(l)[0]) != far) continue;
                wrought |= lot[1] == 1;
                cut |= lot[1] == 2;
            }
            if (wrought || cut) return wrought && cut ? 3 : wrought ? 1 : 2;
        }
        return 0;
    }

    private boolean isSomeone(int a) {
        return a < 6 ? isMaster(a) : isKnitter(a - 6);
    }

    boolean owes(int a, int b, int n) {
        if (a == b || !isSomeone(a) || !isSomeone(b) || !in(n, 1, 1000000)) return false;
        debts.add(new int[] {a, b, n});
        return true;
    }

    long net(int a) {
        long net = 0;
        for (int[] debt : debts) net += debt[1] == a ? debt[2] : debt[0] == a ? -debt[2] : 0;
        return net;
    }

    int payments() {
        List<Long> nets = new ArrayList<>();
        for (int a = 0; a < 18; a++) if (net(a) != 0) nets.add(net(a));
        return nets.size() > 12 ? NONE : nets.size() - groups(nets, (1 << nets.size()) - 1, new HashMap<>());
    }

    /** The first one left is in one of the groups: all groups that it can be in are tried. */
    private static int groups(List<Long> nets, int left, Map<Integer, Integer> known) {
        if (left == 0) return 0;
        if (known.containsKey(left)) return known.get(left);
        int first = Integer.lowestOneBit(left);
        int others = left & ~first;
        int most = 0;
        for (int with = others; ; with = (with - 1) & others) {
            long sum = 0;
            for (int i = 0; i < nets.size(); i++) if (((with | first) >> i & 1) != 0) sum += nets.get(i);
            if (sum == 0) most = Math.max(most, 1 + groups(nets, others & ~with, known));
            if (with == 0) break;
        }
        known.put(left, most);
        return most;
    }

    boolean clear() {
        boolean some = !debts.isEmpty();
        debts.clear();
        return some;
    }

    int fund(int n) {
        if (!in(n, 1, 1000000) || (long) pence + n > 1000000000) return NONE;
        pence += n;
        return pence;
    }

    boolean strike(int k, boolean is) {
        if (!isKnitter(k) || strikers.contains(k) == is) return false;
        if (is) strikers.add(k);
        else strikers.remove((Integer) k);
        return true;
    }

    int lasts() {
        int due = 0;
        for (int k : strikers) due += strikeScale * knitters.get(k);
        return due == 0 ? NONE : pence / due;
    }

    int goes() {
        if (now == 519) return NONE;
        int before = pence;
        for (int k = 0; k < knitters.size(); k++) {
            int due = strikeScale * knitters.get(k);
            if (strikers.contains(k) && due <= pence) pence -= due;
        }
        now++;
        return before - pence;
    }

    int look(int e, int what) {
        return in(e, 0, entries.size() - 1) && in(what, 0, 7) ? entries.get(e)[what] : NONE;
    }

    int count(int what) {
        int[] counts = {now, masters.size(), knitters.size(), frames.size(), lists.size(), acts.size(), entries.size(),
            lots.size(), pence, strikers.size(), tape.size(), book.size()};
        if (in(what, 0, 11)) return counts[what];
        if (isFrame(what - 20)) return holder(what - 20, now);
        if (what >= 40 && what - 40 < lists.size()) return lists.get(what - 40).split(";").length;
        return NONE;
    }
}
