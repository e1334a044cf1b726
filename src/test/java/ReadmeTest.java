import java.nio.file.Files;
import java.nio.file.Path;
import java.util.ArrayList;
import java.util.List;
import java.util.TreeSet;
import java.util.regex.Matcher;
import java.util.regex.Pattern;
import java.util.stream.Collectors;
import java.util.stream.Stream;

/** README.md: its example answers as it says, and it says of refused calls and of the tape what the document says. */
public final class ReadmeTest {
    private static final int NONE = FrameRents.NONE;
    private static final long NO_GAIN = Check.NO_GAIN;

    public static void main(String[] args) throws Exception {
        String page = Files.readString(Path.of("README.md"));
        String own = Files.readString(Path.of("src/test/java/ReadmeTest.java"));
        exampleIsTheOneHere(page, own);
        Check.due("the example's wages", example(), 150);
        wordsOnRefusals(page);
        everyTestIsNamed(page);
        textsAndTheTape();
        worthAndTheTape();
        judgeAndTheTape();
        feedAndTheTape();
        otherCallsAndTheTape();
        Check.end();
    }

    private static void is(String what, boolean is) {
        Check.due(what, is, true);
    }

    /** The lines here are those of the page, but for its comments. */
    private static long example() {
        // README begins
        FrameRents town = new FrameRents();
        int house = town.master(FrameRents.NONE);
        int knitter = town.knitter(4);
        int frame = town.frame(20, house, FrameRents.NONE);
        town.hire(frame, knitter);
        town.feed(0x573d642a, 0x35300000, 0, 0, 0);
        int list = town.list(6);
        town.uses(house, list);
        town.entry(frame, 0, 1, 3, 0, 100, 96);
        long wages = town.week(frame, 0, 0, 0);
        // README ends
        return wages;
    }

    private static List<String> code(String text) {
        List<String> lines = new ArrayList<>();
        for (String line : text.split("\n")) {
            String bare = line.replaceAll("//.*", "").trim();
            if (!bare.isEmpty()) lines.add(bare);
        }
        return lines;
    }

    private static String between(String text, String begin, String end) {
        int from = text.indexOf(begin);
        int to = from < 0 ? -1 : text.indexOf(end, from + begin.length());
        return to < 0 ? "" : text.substring(from + begin.length(), to);
    }

    private static void exampleIsTheOneHere(String page, String own) {
        List<String> shown = code(between(page, "```java\n", "```"));
        is("the page has an example", shown.size() > 5);
        is("it is the one here", shown.equals(code(between(own, "// README begins\n", "// README ends"))));
    }

    /** "A call that is refused (NONE, false) changes nothing but the tape, where it is told." */
    private static void wordsOnRefusals(String page) {
        String words = page.replaceAll("\\s+", " ");
        is("what refused calls change", words.contains("It changes nothing but the tape, where the document tells it"));
        is("not nothing at all", !Pattern.compile("changes nothing(?! but the tape)").matcher(words).find());
        is("what calls after the 512th answer", words.contains("at most 512 calls; what later ones answer is free"));
        is("how to run the tests", words.contains(" .ci/run "));
    }

    private static void everyTestIsNamed(String page) throws Exception {
        TreeSet<String> there = new TreeSet<>();
        try (Stream<Path> files = Files.list(Path.of("src/test/java"))) {
            there.addAll(files.map(f -> f.getFileName().toString()).filter(f -> f.endsWith("Test.java"))
                .map(f -> f.replace(".java", "")).collect(Collectors.toList()));
        }
        TreeSet<String> named = new TreeSet<>();
        Matcher names = Pattern.compile("`(\\w+Test)`").matcher(page);
        while (names.find()) named.add(names.group(1));
        is("named are " + named + ", there are " + there, named.equals(there));
    }

    /** A town with one order told, of one frame, and 40 bytes on the tape that begin with this text. */
    private static FrameRents fed(String text) {
        FrameRents x = Towns.working("W=d*50");
        x.spread(0, 0, 3, 0, 0, 100);
        Check.feed(x, Check.bytesOf(text));
        while (x.count(10) < 40) x.feed(0, 0, 0, 0, 0);
        return x;
    }

    private static void left(String what, FrameRents x, int bytes) {
        Check.due("the tape after " + what, x.count(10), bytes);
    }

    private static void textsAndTheTape() {
        FrameRents x = fed("W=1");
        Check.due("a list", x.list(3), 1);
        left("a list", x, 0);
        x = fed("W=");
        Check.due("a fault in a list", x.list(2), -1002);
        left("a fault in a list", x, 0);
        x = fed("W_1");
        Check.due("an act", x.act(0, 0, 3), 0);
        left("an act", x, 0);
        x = fed("W_");
        Check.due("a fault in an act", x.act(0, 0, 2), -1002);
        left("a fault in an act", x, 0);
        x = fed("W=1");
        for (int n : new int[] {-1, 0, 41, 201}) {
            Check.due("list " + n, x.list(n), NONE);
            Check.due("act " + n, x.act(0, 0, n), NONE);
        }
        Check.due("act of no such weeks", x.act(-1, 0, 3), NONE);
        left("what was refused", x, 40);
    }

    private static void worthAndTheTape() {
        FrameRents x = fed("");
        Check.due("no such list", x.worth(1, 22), 0);
        Check.due("no such letter", x.worth(0, 26), 0);
        left("no such ones", x, 40);
        Check.due("a letter that is worth 0", x.worth(0, 25), 0);
        left("a letter that is worth 0", x, 0);
        x.feed(1, 1, 1, 1, 1);
        Check.due("five numbers", x.worth(0, 22), 0);
        left("five numbers", x, 20);
    }

    private static void judgeAndTheTape() {
        FrameRents x = fed("\3");
        Check.due("n below 0", x.judge(-1), NO_GAIN);
        Check.due("not so many bytes", x.judge(41), NO_GAIN);
        left("these two", x, 40);
        Check.due("a row", x.judge(1), 150);
        left("a row", x, 0);
        x = fed("\3");
        Check.due("another n", x.judge(2), NO_GAIN);
        left("another n", x, 0);
        x = fed("\31");
        Check.due("above 24", x.judge(1), NO_GAIN);
        left("above 24", x, 0);
        x = fed("\2");
        Check.due("not D in all", x.judge(1), NO_GAIN);
        left("not D in all", x, 0);
        x = new FrameRents();
        x.feed(0, 0, 0, 0, 0);
        Check.due("no order was told", x.judge(0), NO_GAIN);
        left("no order was told", x, 20);
    }

    private static void feedAndTheTape() {
        FrameRents x = new FrameRents();
        for (int i = 1; i <= 10; i++) Check.due("feed", x.feed(i, i, i, i, i), 20 * i);
        Check.due("feed more than 200", x.feed(0, 0, 0, 0, 0), NONE);
        left("more than 200", x, 200);
    }

    /** Taken or refused, none of the others changes the tape. */
    private static void otherCallsAndTheTape() {
        String text = "W=d*7+i;R=2";
        FrameRents x = fed(text);
        for (int i = -1; i < 3; i++) {
            x.master(i);
            x.knitter(i);
            x.frame(20, i, NONE);
            x.hire(i, 0);
            x.back(i);
            x.uses(i, 0);
            x.listOf(i, 0);
            x.entry(i, 0, 1, 2, 3, 4, 5);
            x.week(i, 0, 0, 0);
            x.earned(i, 0, 0, true);
            x.number(i, 3);
            x.amiss(i);
            x.tells(i, 0, 0, 1);
            x.differs(i, 0, 0);
            x.spread(i, 0, 1, 0, 0, 1);
            x.share(i);
            x.beside(i, 0, 0, 0);
            x.lot(i);
            x.told(i, 1);
            x.is(i);
            x.owes(i, 1, 1);
            x.net(i);
            x.payments();
            x.clear();
            x.fund(i);
            x.strike(i, true);
            x.lasts();
            x.goes();
            x.look(i, 0);
            x.count(i);
        }
        left("all other calls", x, 40);
        Check.due("its bytes are the same", x.list(text.length()), 1);
        Check.due("as a text", Check.worth(x, 1, 'W', 0, 6, 0, 0, 0, 0, 0, 4), 46);
    }
}
