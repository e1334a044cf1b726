import java.util.ArrayList;
import java.util.List;
import java.util.Random;

/** Random runs of calls, each answered by the class and by the model; seeded, so that runs are the same each time. */
public final class ModelTest {
    private static final int RUNS = 600;
    private static final int CALLS = 512;

    private final Random random;
    private final FrameRents x = new FrameRents();
    private final Model model = new Model();
    private final List<String> calls = new ArrayList<>();
    private boolean wrong = false;

    private ModelTest(long seed) {
        random = new Random(seed);
    }

    public static void main(String[] args) {
        int runs = args.length > 0 ? Integer.parseInt(args[0]) : RUNS;
        for (int seed = 0; seed < runs; seed++) {
            ModelTest test = new ModelTest(seed);
            test.run(seed % 4);
            Check.due("run of seed " + seed, test.wrong, false);
            if (test.wrong) break;
        }
        Check.end();
    }

    private void same(String call, long got, long want) {
        calls.add(call + " = " + got);
        if (got == want || wrong) return;
        wrong = true;
        for (String line : calls) System.out.println(line);
        System.out.println(call + " answered " + got + ", the model " + want);
    }

    private void same(String call, boolean got, boolean want) {
        same(call, got ? 1 : 0, want ? 1 : 0);
    }

    /** Mostly from a range, now and then a little outside of it, seldom far away. */
    private int some(int least, int most) {
        int chance = random.nextInt(400);
        if (chance == 0) return random.nextBoolean() ? Integer.MAX_VALUE : Integer.MIN_VALUE;
        if (chance < 5) return random.nextBoolean() ? least - 1 : most + 1;
        return least + random.nextInt(most - least + 1);
    }

    private int number(int count) {
        return some(0, Math.max(0, count - 1));
    }

    private void run(int kind) {
        start(kind);
        while (calls.size() < CALLS - 12 && !wrong) {
            int chance = random.nextInt(100);
            if (chance < (kind == 1 ? 30 : 8)) goes();
            else if (chance < 40) work();
            else if (chance < 52) texts();
            else if (chance < 60) hiring();
            else if (chance < 72) orders();
            else if (chance < 80) book();
            else if (chance < 90) money();
            else if (chance < 94) lots();
            else looks();
        }
    }

    private void start(int kind) {
        same("master(-1)", x.master(-1), model.master(-1));
        int masters = random.nextInt(5);
        for (int i = 0; i < masters; i++) master();
        int knitters = 1 + random.nextInt(kind == 2 ? 12 : 4);
        for (int i = 0; i < knitters; i++) knitter();
        int frames = 2 + random.nextInt(kind == 3 ? 15 : 6);
        for (int i = 0; i < frames; i++) frame();
        for (int i = 0; i < frames; i++) hire();
        for (int i = 0; i < 3; i++) {
            list();
            uses();
        }
    }

    private void master() {
        int house = random.nextInt(3) == 0 ? -1 : number(model.masters.size());
        same("master(" + house + ")", x.master(house), model.master(house));
    }

    private void knitter() {
        int heads = some(1, 9);
        same("knitter(" + heads + ")", x.knitter(heads), model.knitter(heads));
    }

    private void frame() {
        int gauge = some(10, 40);
        int m = number(Math.min(2, model.masters.size()));
        int k = random.nextInt(3) > 0 ? -1 : number(model.knitters.size());
        same("frame(" + gauge + ", " + m + ", " + k + ")", x.frame(gauge, m, k), model.frame(gauge, m, k));
    }

    private void hire() {
        int f = number(model.frames.size());
        int k = number(Math.min(3, model.knitters.size()));
        same("hire(" + f + ", " + k + ")", x.hire(f, k), model.hire(f, k));
    }

    private void hiring() {
        int chance = random.nextInt(12);
        if (chance == 0) master();
        else if (chance == 1) knitter();
        else if (chance == 2) frame();
        else if (chance < 8) hire();
        else {
            int f = number(model.frames.size());
            same("back(" + f + ")", x.back(f), model.back(f));
        }
    }

    private void goes() {
        same("goes()", x.goes(), model.goes());
    }

    // ---- texts

    private void feed(int... n) {
        same("feed(" + n[0] + ", " + n[1] + ", " + n[2] + ", " + n[3] + ", " + n[4] + ")",
            x.feed(n[0], n[1], n[2], n[3], n[4]), model.feed(n));
    }

    private void feedBytes(int... bytes) {
        for (int from = 0; from < bytes.length; from += 20) {
            int[] n = new int[5];
            for (int i = 0; i < 20; i++) {
                int b = from + i < bytes.length ? bytes[from + i] : random.nextInt(256);
                n[i / 4] |= b << 24 - 8 * (i % 4);
            }
            feed(n);
        }
    }

    private String sum(int depth) {
        int chance = random.nextInt(depth > 4 ? 6 : 12);
        if (chance < 2) return "" + random.nextInt(random.nextInt(8) == 0 ? 1000000 : 60);
        if (chance < 3) return "" + (char) ('A' + random.nextInt(4));
        if (chance < 6) return "" + "gdsnyfhiow".charAt(random.nextInt(10));
        if (chance < 9) return sum(depth + 1) + "+-*/%_^".charAt(random.nextInt(7)) + sum(depth + 1);
        if (chance < 10) return "(" + choice(depth + 1) + ")";
        return sum(depth + 1) + "+-*".charAt(random.nextInt(3)) + sum(depth + 1);
    }

    private String choice(int depth) {
        if (random.nextInt(3) > 0 || depth > 5) return sum(depth);
        return sum(depth + 3) + "<>=".charAt(random.nextInt(3)) + sum(depth + 3) + "?" + choice(depth + 1) + ":" + choice(depth + 1);
    }

    private String fit(String text, int most) {
        String kept = text.length() > most ? text.substring(0, most) : text;
        if (random.nextInt(6) > 0) return kept;
        StringBuilder changed = new StringBuilder(kept);
        int at = random.nextInt(changed.length());
        String signs = "AWgd019+-*/%_^<>=?:();;(( \u00e9";
        char c = signs.charAt(random.nextInt(signs.length()));
        if (random.nextBoolean()) changed.setCharAt(at, c);
        else if (random.nextBoolean()) changed.insert(at, c);
        else changed.deleteCharAt(at);
        kept = changed.toString();
        return kept.length() > most ? kept.substring(0, most) : kept.isEmpty() ? "W" : kept;
    }

    private void list() {
        StringBuilder text = new StringBuilder();
        String letters = random.nextInt(12) > 0 ? "WRCTABDEFGHI" : "WRCTABWDEFGH";
        int formulas = 1 + random.nextInt(random.nextInt(6) == 0 ? 12 : 6);
        for (int i = 0; i < formulas; i++) {
            if (i > 0) text.append(';');
            text.append(letters.charAt(i)).append('=').append(random.nextInt(3) > 0 ? sum(2) : choice(0));
        }
        String fitted = fit(text.toString(), 200);
        feedBytes(Check.bytesOf(fitted));
        int n = random.nextInt(30) > 0 ? fitted.length() : some(1, 200);
        same("list(" + n + ") of " + fitted, x.list(n), model.list(n));
    }

    private void act() {
        String text = fit("WRCT".charAt(random.nextInt(4)) + (random.nextBoolean() ? "_" : "^") + choice(2), 60);
        feedBytes(Check.bytesOf(text));
        int from = some(0, model.now + 3);
        int to = some(model.now, model.now + 50);
        int n = random.nextInt(30) > 0 ? text.length() : some(1, 60);
        same("act(" + from + ", " + to + ", " + n + ") of " + text, x.act(from, to, n), model.act(from, to, n));
    }

    private void uses() {
        int m = number(Math.min(2, model.masters.size()));
        int l = number(model.lists.size());
        same("uses(" + m + ", " + l + ")", x.uses(m, l), model.uses(m, l));
    }

    private void worth() {
        int[] n = new int[10];
        for (int i = 0; i < 10; i++) n[i] = random.nextInt(4) > 0 ? random.nextInt(30) : random.nextInt();
        feed(n[0], n[1], n[2], n[3], n[4]);
        if (random.nextInt(10) > 0) feed(n[5], n[6], n[7], n[8], n[9]);
        int l = number(model.lists.size());
        int letter = "WRCTABDEF".charAt(random.nextInt(9)) - 'A';
        if (random.nextInt(8) == 0) letter = some(0, 25);
        same("worth(" + l + ", " + letter + ")", x.worth(l, letter), model.worth(l, letter));
    }

    private void texts() {
        int chance = random.nextInt(10);
        if (chance < 3) list();
        else if (chance < 4) act();
        else if (chance < 7) worth();
        else if (chance < 8) uses();
        else {
            int m = number(model.masters.size());
            int week = random.nextBoolean() ? some(0, model.now) : some(0, 519);
            same("listOf(" + m + ", " + week + ")", x.listOf(m, week), model.listOf(m, week));
        }
    }

    // ---- work, orders, the book

    private int someWeek() {
        int chance = random.nextInt(10);
        return chance < 6 ? some(0, model.now) : chance < 9 ? model.now : some(0, 519);
    }

    private void work() {
        int chance = random.nextInt(10);
        if (chance < 3) {
            int f = number(model.frames.size());
            int week = random.nextBoolean() ? model.now : some(0, model.now);
            int shape = some(0, random.nextBoolean() ? 2 : 9);
            int dozens = random.nextInt(3) == 0 ? 0 : some(0, 99);
            int narrowings = some(0, 999);
            int yarn = some(0, 9999);
            int hose = random.nextInt(4) == 0 ? some(0, 9999) : Math.max(0, yarn - yarn / 20 + random.nextInt(5) - 2);
            same("entry(" + f + ", " + week + ", " + shape + ", " + dozens + ", " + narrowings + ", " + yarn + ", " + hose + ")",
                x.entry(f, week, shape, dozens, narrowings, yarn, hose),
                model.entry(f, week, shape, dozens, narrowings, yarn, hose));
        } else if (chance < 7) {
            int f = number(model.frames.size());
            int week = someWeek();
            int t = someWeek();
            int what = some(0, 7);
            same("week(" + f + ", " + week + ", " + t + ", " + what + ")", x.week(f, week, t, what), model.week(f, week, t, what));
        } else {
            int k = number(model.knitters.size());
            int week = someWeek();
            int t = someWeek();
            boolean parish = random.nextBoolean();
            same("earned(" + k + ", " + week + ", " + t + ", " + parish + ")",
                x.earned(k, week, t, parish), model.earned(k, week, t, parish));
        }
        if (random.nextInt(6) == 0) {
            int what = random.nextInt(3) == 0 ? some(0, 3) : 10 + number(model.masters.size());
            int n = what == 1 ? some(0, 100) : what >= 10 ? some(0, 200) : some(0, 1000);
            same("number(" + what + ", " + n + ")", x.number(what, n), model.number(what, n));
        }
    }

    private void orders() {
        int chance = random.nextInt(10);
        if (chance < 4) {
            int m = number(Math.min(2, model.masters.size()));
            int shape = some(0, 9);
            int dozens = some(0, random.nextBoolean() ? 10 : 60);
            int narrowings = some(0, 40);
            int yarn = some(0, 99);
            int price = some(0, random.nextBoolean() ? 100 : 100000);
            same("spread(" + m + ", " + shape + ", " + dozens + ", " + narrowings + ", " + yarn + ", " + price + ")",
                x.spread(m, shape, dozens, narrowings, yarn, price), model.spread(m, shape, dozens, narrowings, yarn, price));
            for (int f = 0; f < model.frames.size() && f < 5; f++) same("share(" + f + ")", x.share(f), model.share(f));
        } else if (chance < 5) {
            int f = number(16);
            same("share(" + f + ")", x.share(f), model.share(f));
        } else if (chance < 8) {
            judge();
        } else {
            int m = number(Math.min(2, model.masters.size()));
            int l = number(model.lists.size());
            int from = some(0, model.now);
            int to = random.nextBoolean() ? model.now : some(0, model.now);
            same("beside(" + m + ", " + l + ", " + from + ", " + to + ")", x.beside(m, l, from, to), model.beside(m, l, from, to));
        }
    }

    private void judge() {
        int n = random.nextInt(6) == 0 ? some(0, 11) : 0;
        int left = model.order == null ? 0 : model.order[2];
        List<Integer> row = new ArrayList<>();
        for (int f = 0; f < model.frames.size() && row.size() < 10; f++) {
            if (model.order == null || model.frames.get(f)[1] != model.order[0] || model.holder(f, model.now) < 0) continue;
            int k = Math.min(left, random.nextInt(25));
            row.add(k);
            left -= k;
        }
        if (!row.isEmpty() && random.nextInt(4) > 0) row.set(0, row.get(0) + left);
        int[] bytes = new int[Math.max(1, row.size())];
        for (int i = 0; i < row.size(); i++) bytes[i] = row.get(i) & 255;
        if (random.nextInt(5) > 0) feedBytes(bytes);
        if (n == 0) n = row.size();
        same("judge(" + n + ")", x.judge(n), model.judge(n));
    }

    private void book() {
        int m = number(model.masters.size());
        if (random.nextBoolean()) {
            int week = random.nextBoolean() ? model.now : some(0, model.now);
            int shape = some(0, 3);
            int dozens = some(0, random.nextBoolean() ? 2 : 10000);
            same("tells(" + m + ", " + week + ", " + shape + ", " + dozens + ")",
                x.tells(m, week, shape, dozens), model.tells(m, week, shape, dozens));
        } else {
            int i = some(0, 6);
            int what = some(0, 3);
            same("differs(" + m + ", " + i + ", " + what + ")", x.differs(m, i, what), model.differs(m, i, what));
        }
    }

    // ---- money, lots, looks

    private int someone() {
        return random.nextInt(10) == 0 ? some(0, 17)
            : random.nextBoolean() ? number(model.masters.size()) : 6 + random.nextInt(Math.max(1, model.knitters.size()));
    }

    private void money() {
        int chance = random.nextInt(20);
        if (chance < 6) {
            int a = someone();
            int b = someone();
            int pence = some(1, random.nextInt(3) > 0 ? 4 : 1000000);
            same("owes(" + a + ", " + b + ", " + pence + ")", x.owes(a, b, pence), model.owes(a, b, pence));
        } else if (chance < 8) {
            int a = someone();
            same("net(" + a + ")", x.net(a), model.net(a));
        } else if (chance < 11) {
            same("payments()", x.payments(), model.payments());
        } else if (chance < 12) {
            if (random.nextInt(4) == 0) same("clear()", x.clear(), model.clear());
        } else if (chance < 14) {
            int pence = some(1, random.nextBoolean() ? 5000 : 1000000);
            same("fund(" + pence + ")", x.fund(pence), model.fund(pence));
        } else if (chance < 16) {
            int k = number(model.knitters.size());
            boolean is = random.nextInt(3) > 0;
            same("strike(" + k + ", " + is + ")", x.strike(k, is), model.strike(k, is));
        } else if (chance < 18) {
            same("lasts()", x.lasts(), model.lasts());
        } else {
            int n = some(0, random.nextBoolean() ? 5 : 1000);
            same("number(2, " + n + ")", x.number(2, n), model.number(2, n));
        }
    }

    private void lots() {
        int chance = random.nextInt(3);
        int l = number(model.lots.size());
        if (chance == 0) {
            int marks = some(0, 255);
            same("lot(" + marks + ")", x.lot(marks), model.lot(marks));
        } else if (chance == 1) {
            int what = some(0, 2);
            same("told(" + l + ", " + what + ")", x.told(l, what), model.told(l, what));
        } else {
            same("is(" + l + ")", x.is(l), model.is(l));
        }
    }

    private void looks() {
        int e = number(model.entries.size());
        int chance = random.nextInt(3);
        if (chance == 0) {
            int what = some(0, 7);
            same("look(" + e + ", " + what + ")", x.look(e, what), model.look(e, what));
        } else if (chance == 1) {
            same("amiss(" + e + ")", x.amiss(e), model.amiss(e));
        } else {
            int what = some(0, 51);
            same("count(" + what + ")", x.count(what), model.count(what));
        }
    }
}
