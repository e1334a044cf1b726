/** What the tests share: telling wrong answers, and feeding texts and numbers to the tape. */
final class Check {
    static final long NO_GAIN = -1000000000000L;
    private static int wrong = 0;
    private static int checked = 0;

    private Check() {
    }

    static void due(String call, long got, long want) {
        checked++;
        if (got == want) return;
        wrong++;
        System.out.println(call + " answered " + got + ", due is " + want);
    }

    static void due(String call, boolean got, boolean want) {
        due(call, got ? 1 : 0, want ? 1 : 0);
    }

    static void end() {
        System.out.println(checked + " answers looked at, " + wrong + " wrong");
        if (wrong != 0 || checked == 0) System.exit(1);
    }

    /** Feeds bytes in blocks of twenty; the last block is filled up with 0. */
    static void feed(FrameRents x, int... bytes) {
        for (int from = 0; from < bytes.length; from += 20) {
            int[] n = new int[5];
            for (int i = 0; i < 20; i++) {
                int b = from + i < bytes.length ? bytes[from + i] & 255 : 0;
                n[i / 4] |= b << (24 - 8 * (i % 4));
            }
            x.feed(n[0], n[1], n[2], n[3], n[4]);
        }
    }

    static int[] bytesOf(String text) {
        int[] bytes = new int[text.length()];
        for (int i = 0; i < bytes.length; i++) bytes[i] = text.charAt(i);
        return bytes;
    }

    static int list(FrameRents x, String text) {
        feed(x, bytesOf(text));
        return x.list(text.length());
    }

    static int act(FrameRents x, int from, int to, String text) {
        feed(x, bytesOf(text));
        return x.act(from, to, text.length());
    }

    /** Facts in the document's order: g d s n y f h i o w. */
    static long worth(FrameRents x, int l, char letter, int... facts) {
        int[] n = java.util.Arrays.copyOf(facts, 10);
        x.feed(n[0], n[1], n[2], n[3], n[4]);
        x.feed(n[5], n[6], n[7], n[8], n[9]);
        return x.worth(l, letter - 'A');
    }

    /** What a text's W is worth with these facts, on an object of its own. */
    static long worthOf(String sum, int... facts) {
        FrameRents x = new FrameRents();
        due("list of " + sum, list(x, "W=" + sum), 0);
        return worth(x, 0, 'W', facts);
    }

    static int faultOf(String text) {
        return list(new FrameRents(), text);
    }

    static void goes(FrameRents x, int weeks) {
        for (int i = 0; i < weeks; i++) x.goes();
    }
}
