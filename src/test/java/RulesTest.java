import java.io.IOException;
import java.nio.charset.StandardCharsets;
import java.nio.file.Files;
import java.nio.file.Paths;
import java.util.ArrayList;
import java.util.List;
import java.util.regex.Matcher;
import java.util.regex.Pattern;

/** What can be seen of LANGUAGE.md in the source by its words: no proof, but a guard against slips. */
public final class RulesTest {
    private static final String SOURCE = "src/main/java/VotesUntouched.java";
    private static final String[] BANNED = {
        "\\b(throw|throws|try|catch|finally|synchronized|assert|volatile|transient|native|record|sealed|yield)\\b",
        "->", "::", "\\bimport\\b", "\\bpackage\\b", "\\bprotected\\b", "\\b(double|float|var)\\b", "@\\w+",
        "\\b(equals|hashCode|toString|getClass|instanceof)\\b", "\\bObject\\b", "\\bwhile \\(true\\)", "\\w+Exact\\b",
        "\\bnew (?!int\\[|long\\[|(Council|Changes|Reader|Code|Ballot|Finder|Shelves|Years|Deeds|Voters)\\()",
        "\\b[A-Z]\\w*\\.(?!bitCount|min\\(|arraycopy|[A-Z])(?=[a-z]\\w*\\()(?!leastOf|mostOf|twelfths|commonDivisor|isMore|isKind|isUnder|isSort)",
    };
    private static final int MOST_LINES = 60;
    private static final int MOST_PARAMETERS = 7;
    private static final int MOST_CLASSES = 12;
    private static final int MOST_FIELDS = 20;
    private static final int MOST_WIDTH = 120;

    private static int wrong;

    private static void say(String what) {
        wrong++;
        System.out.println("the rules: " + what);
    }

    private static int countOf(String line, char c) {
        return (int) line.chars().filter(x -> x == c).count();
    }

    public static void main(String[] args) throws IOException {
        List<String> lines = new ArrayList<>();
        boolean inComment = false;
        for (String line : Files.readAllLines(Paths.get(SOURCE), StandardCharsets.ISO_8859_1)) {
            inComment |= line.trim().startsWith("/**");
            lines.add(inComment ? "" : line.replaceAll("//.*", ""));
            inComment &= !line.contains("*/");
            if (line.length() > MOST_WIDTH) {
                say("a line of " + line.length() + ": " + line);
            }
            if (line.chars().anyMatch(c -> c < 32 || c > 126)) {
                say("a sign that is not plain: " + line);
            }
        }
        for (int i = 0; i < lines.size(); i++) {
            for (String banned : BANNED) {
                if (Pattern.compile(banned).matcher(lines.get(i)).find()) {
                    say("line " + (i + 1) + " has " + banned + ": " + lines.get(i).trim());
                }
            }
        }
        shapes(lines);
        System.out.println("the rules: " + wrong + " wrong");
        if (wrong != 0) {
            System.exit(1);
        }
    }

    private static void shapes(List<String> lines) {
        Pattern method = Pattern.compile("^( {4}| {8})(?=\\S)(?!private final |return |if |for ).*\\w\\((.*)\\) \\{$");
        Pattern field = Pattern.compile("^( {4}| {8})private (?!static).*(=.*)?;$");
        Pattern open = Pattern.compile("^ {8}(static|private static) (?!final).*;$");
        int classes = 0;
        int fields = 0;
        for (int i = 0; i < lines.size(); i++) {
            String line = lines.get(i);
            if (line.contains(" class ")) {
                classes++;
                fields = 0;
            }
            if (field.matcher(line).matches() && ++fields > MOST_FIELDS) {
                say("too many fields at line " + (i + 1));
            }
            if (open.matcher(line).matches()) {
                say("static, and not final: line " + (i + 1));
            }
            Matcher m = method.matcher(line);
            if (m.matches()) {
                if (countOf(m.group(2), ',') >= MOST_PARAMETERS) {
                    say("too many parameters at line " + (i + 1));
                }
                int end = i;
                while (end < lines.size() && !lines.get(end).equals(m.group(1) + "}")) {
                    end++;
                }
                if (end - i >= MOST_LINES) {
                    say("a method of " + (end - i + 1) + " lines at line " + (i + 1));
                }
            }
        }
        if (classes > MOST_CLASSES) {
            say(classes + " classes");
        }
    }
}
