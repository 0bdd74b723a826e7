import java.io.IOException;
import java.nio.charset.StandardCharsets;
import java.nio.file.Files;
import java.nio.file.Path;
import java.nio.file.Paths;
import java.util.ArrayList;
import java.util.List;
import java.util.regex.Matcher;
import java.util.regex.Pattern;

/**
 * What the tests of edges share: the sentence of the document that is tested, what is due, and calls
 * that are refused and leave all as it was.
 */
final class Edges {
    static final int BAD = -1, NOT = -2, FULL = -3, STATE = -5, VOID = -2000000000;
    static final int NOTHING = -11, KIND = -12, PLACE = -13, SIZE = -14;
    static final int LEAST = Integer.MIN_VALUE, MOST = Integer.MAX_VALUE;
    static final int PROMISES = 41;

    /** Makes an object and brings it to where a test begins. */
    interface Start {
        VotesUntouched made();
    }

    interface Call {
        long on(VotesUntouched x);
    }

    private static final Path DOCUMENT = Paths.get("../shared/DOC.md");
    // The words by which a sentence names an edge; those of the document that no test quotes are wrong.
    private static final Pattern EDGE = Pattern.compile("-?\\d+ (\\.\\.|to) \\d+|\\d+ at most|at most|at least|at first"
        + "|no more|as long as|\\bwraps?\\b|lowest bits|\\bnone\\b|\\bnobody\\b|\\bnothing\\b|\\bNobody\\b|\\bno such\\b"
        + "|\\bBAD\\b|\\bNOT\\b|\\bFULL\\b|\\bSTATE\\b|\\bVOID\\b|-1[1-4]\\b|\\blacks\\b|\\bmissing\\b|\\bends\\b|not all\\b"
        + "|\\(0 by 1\\)|\\babove 0\\b|\\bbelow\\b|of like ones|by 0|refus|the first 24|one or more|0 itself|of several");

    private static final String[] sections = new String[PROMISES + 1];
    private static final boolean[][] quoted = new boolean[PROMISES + 1][];
    private static int promise;
    private static String words = "";
    private static Start start;
    private static int inSentence;
    private static int sentences;
    private static int checks;
    private static int wrong;

    private Edges() {
    }

    // ---- the document

    /** Section 0 is how long an object is used, and the document's terms, section n its promise n. */
    static void readDocument() throws IOException {
        String text = plain(Files.readString(DOCUMENT, StandardCharsets.UTF_8));
        sections[0] = between(text, "An object is used", "## The public face") + between(text, "## Terms", "## Promise 1:");
        for (int i = 1; i <= PROMISES; i++) {
            sections[i] = between(text, "## Promise " + i + ":", i == PROMISES ? "## Not promised" : "## Promise " + (i + 1) + ":");
        }
        for (int i = 0; i <= PROMISES; i++) {
            quoted[i] = new boolean[sections[i].length()];
        }
    }

    private static String plain(String text) {
        return text.replaceAll("\\s+", " ");
    }

    private static String between(String text, String from, String to) {
        int begin = text.indexOf(from);
        int end = text.indexOf(to);
        if (begin < 0 || end < begin) {
            say("the document has no " + from);
            return "";
        }
        return text.substring(begin, end);
    }

    /** From here on the tests are of a sentence; it stands in the promise's section, or among the terms. */
    static void sentence(int number, String quote) {
        endSentence();
        promise = number;
        words = quote;
        inSentence = 0;
        sentences++;
        int found = mark(number, quote) + mark(0, quote);
        if (found == 0) {
            say("the document does not say so");
        }
    }

    private static int mark(int section, String quote) {
        int at = sections[section].indexOf(quote);
        for (int i = 0; at >= 0 && i < quote.length(); i++) {
            quoted[section][at + i] = true;
        }
        return at < 0 ? 0 : 1;
    }

    private static void endSentence() {
        if (!words.isEmpty() && inSentence == 0) {
            say("no test");
        }
    }

    /** Each word of the document that names an edge must stand in a sentence that was tested. */
    private static void findUntested() {
        for (int i = 0; i <= PROMISES; i++) {
            Matcher edge = EDGE.matcher(sections[i]);
            while (edge.find()) {
                if (!quoted[i][edge.start()] || !quoted[i][edge.end() - 1]) {
                    int from = Math.max(0, edge.start() - 50);
                    int to = Math.min(sections[i].length(), edge.end() + 30);
                    say("section " + i + " has an edge that no test names: .." + sections[i].substring(from, to) + "..");
                }
            }
        }
    }

    // ---- what is due

    private static void say(String what) {
        wrong++;
        System.out.println("promise " + promise + ", \"" + words + "\": " + what);
    }

    static void due(String call, long got, long want) {
        checks++;
        inSentence++;
        if (got != want) {
            say(call + " answered " + got + ", due is " + want);
        }
    }

    /** From here on what is refused, or only asks, is called on objects that are begun so. */
    static void from(Start begun) {
        start = begun;
    }

    /** The answer is due, and all that can be seen is as on an object that was not called so. */
    static void refused(String call, Call c, long want) {
        due(call, c.on(start.made()), want);
        for (int part = 0; part < Look.PARTS; part++) {
            VotesUntouched called = start.made();
            c.on(called);
            checks++;
            List<Long> got = Look.at(called, part);
            List<Long> left = Look.at(start.made(), part);
            if (!got.equals(left)) {
                say(call + " leaves not all as it was: part " + part + " is " + got + ", was " + left);
            }
        }
    }

    /** The same of a call that only asks: what it answers is due, and it changes nothing. */
    static void asked(String call, Call c, long want) {
        refused(call, c, want);
    }

    static void end() {
        endSentence();
        promise = 0;
        words = "";
        findUntested();
        System.out.println(sentences + " sentences, " + checks + " checks, " + wrong + " wrong");
        if (wrong != 0) {
            System.exit(1);
        }
    }

    // ---- how tests begin

    static VotesUntouched empty() {
        return new VotesUntouched();
    }

    static VotesUntouched council(int people, int matters) {
        VotesUntouched x = new VotesUntouched();
        for (int i = 0; i < people; i++) {
            x.person(0);
        }
        for (int i = 0; i < matters; i++) {
            x.matter();
        }
        return x;
    }

    static void tell(VotesUntouched x, int matter, int what, int... numbers) {
        for (int p = 0; p < numbers.length; p++) {
            x.mend(10 * p + matter, what, numbers[p]);
        }
    }

    static void feed(VotesUntouched x, String text) {
        for (int i = 0; i < text.length(); i++) {
            x.feed(text.charAt(i));
        }
    }

    static int law(VotesUntouched x, String text) {
        feed(x, text);
        return x.law();
    }

    static void row(VotesUntouched x, int shelf, int sort, long... values) {
        x.row(shelf, sort, values.length);
        for (int i = 0; i < values.length; i++) {
            x.put(shelf, i, values[i]);
        }
    }

    static String times(int n, String text) {
        StringBuilder s = new StringBuilder();
        for (int i = 0; i < n; i++) {
            s.append(text);
        }
        return s.toString();
    }

    /**
     * Something of everything: shelves 0 to 3 hold bytes, shorts, ints, longs, 4 a voter, 5 nothing.
     * By its law 2 and 3 may vote on matter 0, 1 and 3 on matter 1, all on matter 2; alone matter 1, and
     * it with matter 2, is carried; matter 1 is decided, as the image has it.
     */
    static VotesUntouched some() {
        VotesUntouched x = new VotesUntouched();
        for (int fee : new int[] {5, 20, 3, 40}) {
            x.person(fee);
        }
        x.cousins(1);
        x.cousins(12);
        for (int m = 0; m < 3; m++) {
            x.matter();
        }
        tell(x, 0, 0, 9, 0, 0, 1);
        tell(x, 0, 1, 3, 2, 0, -1);
        tell(x, 1, 0, 0, 4, 0, 0);
        tell(x, 1, 1, -2, 0, -5, 1);
        x.mend(1, 2, 7);
        x.mend(2, 1, -4);
        x.mend(12, 1, 6);
        law(x, "t<9&k>1");
        feed(x, "p=3?");
        x.decide(2, 1);
        x.image();
        x.decide(4, 9);
        for (int kind = 7; kind >= 0; kind--) {
            x.body(kind);
        }
        row(x, 0, 0, 5, 6, 99, 0, 100, -1);
        row(x, 1, 1, 1, 3, 2, 3, 7);
        row(x, 2, 2, 70000, -1, 8);
        row(x, 3, 3, 1L << 40, 2);
        x.keep(4, 2);
        x.undo();
        x.undo();
        x.act(0, 3, 4);
        x.rule(0, 2);
        x.rule(1, 2);
        return x;
    }

    /** All full: people, pairs, matters, the tape, changes, voters. */
    static VotesUntouched full() {
        VotesUntouched x = new VotesUntouched();
        for (int p = 0; p < 10; p++) {
            x.person(p);
        }
        for (int pair : new int[] {1, 12, 23, 34, 45, 56, 67, 78, 89, 2, 13, 24}) {
            x.cousins(pair);
        }
        for (int m = 0; m < 6; m++) {
            x.matter();
        }
        for (int i = 0; i < 42; i++) {
            x.mend(i % 10 * 10 + i % 6, i % 2, 1 + i % 8);
        }
        feed(x, times(60, "1;"));
        for (int i = 0; i < 50; i++) {
            x.body(i % 8);
        }
        return x;
    }
}
