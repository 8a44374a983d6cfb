import java.io.IOException;
import java.nio.file.Files;
import java.nio.file.Path;
import java.util.regex.Matcher;
import java.util.regex.Pattern;

/** What of ../shared/LANGUAGE.md can be seen in the text of the program. */
public final class RulesTest {
    private static final String[] BANNED = {
        "\\bthrows?\\b", "\\btry\\b", "\\bcatch\\b", "\\bsynchronized\\b", "\\bassert\\b", "->", "::", "\\bimport\\b",
        "\\bpackage\\b", "\\bprotected\\b", "\\bstatic\\s*\\{", "\\bObject\\b", "\\bRandom\\b", "\\bThread\\b",
        "\\bnanoTime\\b", "\\bcurrentTimeMillis\\b", "Exact\\b", "\\bvar\\b", "\\bwhile\\s*\\(true", "for\\s*\\(;",
        "\\bString\\b", "\\.hashCode\\b", "\\.equals\\b", "\\.toString\\b", "\\bfloat\\b", "\\bdouble\\b"
    };
    private static final Pattern METHOD = Pattern.compile("^ {4,8}[a-zA-Z][^=;]*\\(([^)]*)\\) \\{$");

    private static String withoutComments(String source) {
        return source.replaceAll("(?s)/\\*.*?\\*/", "").replaceAll("//[^\n]*", "");
    }

    private static int count(String pattern, String text) {
        Matcher matcher = Pattern.compile(pattern).matcher(text);
        int found = 0;
        while (matcher.find()) {
            found++;
        }
        return found;
    }

    public static void main(String[] args) throws IOException {
        Due due = new Due().in("LANGUAGE.md");
        String source = Files.readString(Path.of("src/main/java/ReadAge.java"));
        String code = withoutComments(source);
        for (String banned : BANNED) {
            due.is("times of " + banned, count(banned, code), 0);
        }
        due.is("signs beyond 127", count("[^\\x00-\\x7f]", source), 0);
        due.is("at most 12 classes", count("\\bclass \\w+ \\{", code) <= 12, true);
        due.is("classes inside are private, static and final",
                count("private static final class ", code), count("\\bclass \\w+ \\{", code) - 1);
        due.is("static fields are final", count("\\bstatic (?!final\\b)[\\w\\[\\]]+ \\w+( =|;)", code), 0);
        // No call makes an object: new stands in fields' and constructors' lines alone.
        due.is("lines with new", count("\\bnew \\w+[(\\[]", code), count("(?m)^ {8}(?! ).* = new .*;$", code));
        look(due, code.split("\n"));
        Due.end(due);
    }

    private static void look(Due due, String[] lines) {
        String name = "";
        int begun = 0;
        for (int i = 0; i < lines.length; i++) {
            Matcher matcher = METHOD.matcher(lines[i]);
            if (matcher.find()) {
                name = lines[i].trim();
                begun = i;
                int parameters = matcher.group(1).isEmpty() ? 0 : matcher.group(1).split(",").length;
                due.is(name + " has at most 7 parameters", parameters <= 7 || name.contains(" choose("), true);
            } else if (lines[i].matches(" {4,8}\\}") && !name.isEmpty()) {
                due.is(name + " is short", i - begun <= 60, true);
                name = "";
            }
            due.is("line " + (i + 1) + " is not too long", lines[i].length() <= 130, true);
        }
    }
}
