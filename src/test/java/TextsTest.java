import java.util.Random;

/** Texts of lists and acts against the model: all short ones of a few signs, and random ones; seeded. */
public final class TextsTest {
    private static FrameRents x = new FrameRents();
    private static int calls = 0;
    private static int texts = 0;
    private static int wrong = 0;

    public static void main(String[] args) {
        shortTexts("W=", "1A<?:()+;=", 6);
        shortTexts("", "W=1;a", 6);
        shortTexts("W=((((1<2?", "1(?:)<;", 6);
        shortTexts("W=1<2?1<2?1<2?", "1(?:)<", 6);
        shortTexts("A=B;B=", "ACB1;=", 6);
        shortTexts("W=12", "34a;", 6);
        shortTexts("W=7", "-*_2", 6);
        randomTexts();
        acts();
        System.out.println(texts + " answers compared with the model's");
        Check.due("texts that answered otherwise than the model", wrong, 0);
        Check.end();
    }

    private static void shortTexts(String ahead, String signs, int most) {
        for (int length = 0; length <= most; length++) {
            long all = 1;
            for (int i = 0; i < length; i++) all *= signs.length();
            for (long n = 0; n < all; n++) {
                StringBuilder text = new StringBuilder(ahead);
                long rest = n;
                for (int i = 0; i < length; i++) {
                    text.append(signs.charAt((int) (rest % signs.length())));
                    rest /= signs.length();
                }
                if (text.length() > 0) compareList(text.toString());
            }
        }
    }

    private static void tell(String what, long got, long want) {
        texts++;
        if (got == want) return;
        wrong++;
        if (wrong <= 20) System.out.println(what + " answered " + got + ", the model " + want);
    }

    /** A new object before an old one has been asked too often. */
    private static void feed(String text) {
        if (calls > 400) renew();
        Check.feed(x, Check.bytesOf(text));
        calls += (text.length() + 19) / 20 + 1;
    }

    private static void renew() {
        x = new FrameRents();
        calls = 0;
    }

    private static void compareList(String text) {
        feed(text);
        int got = x.list(text.length());
        int want = Model.faultOfList(text);
        if (got < 0 || want < 0) {
            tell("list of " + text, got, want);
            if (got >= 0) renew();
            return;
        }
        Model model = new Model();
        feedModel(model, text);
        model.list(text.length());
        for (int letter = 0; letter < 26; letter++) {
            if (text.indexOf('A' + letter) < 0) continue;
            int[] facts = {20, 3, 1, 4, 7, 1, 2, 5, 2, 9};
            for (int i = 0; i < 10; i += 5) {
                x.feed(facts[i], facts[i + 1], facts[i + 2], facts[i + 3], facts[i + 4]);
                model.feed(facts[i], facts[i + 1], facts[i + 2], facts[i + 3], facts[i + 4]);
            }
            calls += 3;
            tell("worth of " + (char) ('A' + letter) + " by " + text, x.worth(got, letter), model.worth(0, letter));
        }
        if (got == 9) renew();
    }

    private static void feedModel(Model model, String text) {
        for (int i = 0; i < text.length(); i++) model.tape.add((int) text.charAt(i));
    }

    /** Texts that are mostly right: what may stand next is chosen, and now and then something else. */
    private static String randomText(Random random, String start, int most, boolean isList) {
        StringBuilder text = new StringBuilder(start);
        int open = 0;
        boolean wantsOperand = true;
        int length = 3 + random.nextInt(most - 3);
        while (text.length() < length) {
            if (random.nextInt(150) == 0) {
                String signs = "AWgdx019+-*/%_^<>=?:();;((\u0001\u00ff";
                text.append(signs.charAt(random.nextInt(signs.length())));
                continue;
            }
            int chance = random.nextInt(12);
            if (wantsOperand) {
                if (chance < 2) {
                    text.append('(');
                    continue;
                }
                if (chance < 5) text.append(random.nextInt(random.nextInt(5) == 0 ? 9999999 : 20));
                else if (chance < 7) text.append((char) ('A' + random.nextInt(26)));
                else text.append("gdsnyfhiow".charAt(random.nextInt(10)));
                wantsOperand = false;
            } else if (chance < 7) {
                text.append("+-*/%_^".charAt(random.nextInt(7)));
                wantsOperand = true;
            } else if (chance < 8) {
                text.append(')');
            } else if (chance < 10) {
                text.append("<>=".charAt(random.nextInt(3))).append(random.nextInt(9)).append('?');
                wantsOperand = true;
                open++;
            } else if (open > 0) {
                text.append(':');
                open--;
                wantsOperand = true;
            } else if (isList) {
                text.append(';').append((char) ('A' + random.nextInt(26))).append('=');
                wantsOperand = true;
            }
        }
        if (wantsOperand) text.append('1');
        for (; open > 0; open--) text.append(":2");
        return text.length() > most ? text.substring(0, most) : text.toString();
    }

    private static void randomTexts() {
        Random random = new Random(7);
        for (int i = 0; i < 60000; i++) compareList(randomText(random, "W=", random.nextInt(10) == 0 ? 200 : 40, true));
    }

    private static void acts() {
        Random random = new Random(8);
        for (int i = 0; i < 20000; i++) {
            String start = "" + "WRCTWRCTA".charAt(random.nextInt(9)) + "_^_^_^=".charAt(random.nextInt(7));
            String text = randomText(random, start, random.nextInt(5) == 0 ? 60 : 20, false);
            feed(text);
            int got = x.act(0, 0, text.length());
            int want = Model.faultOfAct(text);
            tell("act of " + text, Math.min(got, 0), want);
            if (got == 9) renew();
        }
    }
}
