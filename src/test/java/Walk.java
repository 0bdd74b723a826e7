import java.io.IOException;
import java.nio.charset.StandardCharsets;
import java.nio.file.Files;
import java.nio.file.Path;
import java.nio.file.Paths;

/**
 * A walk through the document from its first line to its last: piece by piece it is quoted where it
 * stands, nothing left out, and what a piece says is tried before the next is quoted.
 */
final class Walk {
    static final int BAD = -1, NOT = -2, FULL = -3, STATE = -5, VOID = -2000000000;
    static final int NOTHING = -11, KIND = -12, PLACE = -13, SIZE = -14;
    static final int LEAST = Integer.MIN_VALUE, MOST = Integer.MAX_VALUE;

    private static final Path DOCUMENT = Paths.get("../shared/DOC.md");

    private static String text = "";
    private static int at;
    private static String piece = "";
    private static int inPiece;
    private static int pieces;
    private static int checks;
    private static int wrong;

    private Walk() {
    }

    static void begin() throws IOException {
        text = plain(Files.readString(DOCUMENT, StandardCharsets.UTF_8));
    }

    private static String plain(String words) {
        return words.replaceAll("\\s+", " ").trim();
    }

    /** What stands next and promises nothing by itself. */
    static void heading(String words) {
        endPiece();
        pass(words);
        piece = "";
    }

    /** What stands next, and is tried by what follows. */
    static void says(String words) {
        endPiece();
        pass(words);
        piece = words;
        inPiece = 0;
        pieces++;
    }

    /** What stands next, up to the first sign of a kind and with it. */
    static String next(String sign) {
        int end = text.indexOf(sign, at);
        String words = end < 0 ? text.substring(at) : text.substring(at, end + sign.length());
        says(words);
        return words;
    }

    private static void pass(String words) {
        String quote = plain(words);
        int found = text.startsWith(quote, at) ? at : text.indexOf(quote, at);
        piece = words;
        if (found < 0) {
            say("the document does not say so from here on: " + text.substring(at, Math.min(text.length(), at + 80)));
            return;
        }
        if (found > at) {
            say("passed over: " + text.substring(at, found));
        }
        at = found + quote.length();
        while (at < text.length() && text.charAt(at) == ' ') {
            at++;
        }
    }

    private static void endPiece() {
        if (!piece.isEmpty() && inPiece == 0) {
            say("not tried");
        }
    }

    private static void say(String what) {
        wrong++;
        System.out.println("\"" + piece + "\": " + what);
    }

    static void due(String call, long got, long want) {
        checks++;
        inPiece++;
        if (got != want) {
            say(call + " answered " + got + ", due is " + want);
        }
    }

    static void end() {
        endPiece();
        piece = "the end";
        if (at < text.length()) {
            say("not quoted: " + text.substring(at));
        }
        System.out.println(pieces + " pieces, " + checks + " checks, " + wrong + " wrong");
        if (wrong != 0) {
            System.exit(1);
        }
    }

    // ---- how the trying begins

    /** People without fees, and matters. */
    static VotesUntouched council(int people, int matters) {
        VotesUntouched x = new VotesUntouched();
        for (int i = 0; i < people; i++) {
            x.person(0);
        }
        for (int i = 0; i < matters; i++) {
            x.matter();
        }
        return x;
    }

    /** People by their fees, and matters. */
    static VotesUntouched paid(int matters, int... fees) {
        VotesUntouched x = new VotesUntouched();
        for (int fee : fees) {
            x.person(fee);
        }
        for (int i = 0; i < matters; i++) {
            x.matter();
        }
        return x;
    }

    /** How a matter is liked by the first people. */
    static void likes(VotesUntouched x, int matter, int... numbers) {
        for (int p = 0; p < numbers.length; p++) {
            x.mend(10 * p + matter, 1, numbers[p]);
        }
    }

    /** How much a matter touches the first people. */
    static void touches(VotesUntouched x, int matter, int... numbers) {
        for (int p = 0; p < numbers.length; p++) {
            x.mend(10 * p + matter, 0, numbers[p]);
        }
    }

    static int law(VotesUntouched x, String words) {
        for (int i = 0; i < words.length(); i++) {
            x.feed(words.charAt(i));
        }
        return x.law();
    }

    static VotesUntouched row(VotesUntouched x, int shelf, int sort, long... values) {
        x.row(shelf, sort, values.length);
        for (int i = 0; i < values.length; i++) {
            x.put(shelf, i, values[i]);
        }
        return x;
    }

    /** A law that is a text, and by which the one person there may vote, or may not. */
    static void counts(String words, int may) {
        VotesUntouched x = council(1, 1);
        due("law \"" + words + "\"", law(x, words), 1);
        due("MAY by \"" + words + "\"", x.may(0, 1, 0), may);
    }

    static void worth(String expression, String other) {
        counts("(" + expression + ")=(" + other + ")", 1);
    }

    static void fault(String words, int place) {
        VotesUntouched x = council(1, 1);
        due("law \"" + words + "\"", law(x, words), -100 - place);
    }
}
