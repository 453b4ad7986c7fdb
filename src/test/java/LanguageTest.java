import java.io.IOException;
import java.nio.file.Files;
import java.nio.file.Path;
import java.util.ArrayList;
import java.util.List;
import java.util.regex.Matcher;
import java.util.regex.Pattern;

/** What of LANGUAGE.md can be seen in the source's text. The program's path is the first argument. */
final class LanguageTest {
    private static final String[] BANNED = {
        "\\bthrow\\b", "\\btry\\b", "\\bcatch\\b", "\\bsynchronized\\b", "\\bassert\\b", "\\bimport\\b", "\\bpackage\\b", "->", "::", "\\bwhile\\s*\\(true",
        "\\bThread\\b", "\\bMath\\.random\\b", "\\bSystem\\.(?!arraycopy)", "\\bString\\b", "\\bhashCode\\b", "\\bequals\\b", "Exact\\b", "\\bprotected\\b",
        "\\bnative\\b", "\\bvolatile\\b", "\\bnew\\s+\\w+\\s*\\([^)]*\\)\\s*\\{", "\\bstatic\\s*\\{", "\\bwhile\\b", "\\bdo\\b",
    };

    public static void main(String[] args) throws IOException {
        Path path = Path.of(args.length > 0 ? args[0] : "src/main/java/NarrowHouse.java");
        String source = plain(Files.readString(path));
        for (String banned : BANNED) Check.due("in the source: " + banned, Pattern.compile(banned).matcher(source).find(), false);
        signsAreSmall(Files.readString(path));
        methods(source);
        face(source);
        Check.end();
    }

    /** Without comments, and without what stands in quotes. */
    private static String plain(String source) {
        return source.replaceAll("(?s)/\\*.*?\\*/", "").replaceAll("//[^\n]*", "").replaceAll("'(\\\\.|[^'])'", "0");
    }

    private static void signsAreSmall(String source) {
        boolean small = true;
        for (int k = 0; k < source.length(); k++) if (source.charAt(k) > 126) small = false;
        Check.due("all signs are below 127", small, true);
    }

    private static void methods(String source) {
        Matcher method = Pattern.compile("\\n( +)(?:(?:public|private|static|final) )*[\\w\\[\\]]+ (\\w+)\\(([^)]*)\\) \\{\\n").matcher(source);
        List<String> names = new ArrayList<>();
        while (method.find()) {
            String end = "\n" + method.group(1) + "}";
            String body = source.substring(method.end() - 1, source.indexOf(end, method.end() - 1));
            Check.due("lines of " + method.group(2), body.split("\n").length <= 60, true);
            Check.due("parameters of " + method.group(2), method.group(3).split(",").length <= 7, true);
            names.add(method.group(2));
        }
        Check.due("methods were found", names.size() > 80, true);
        for (String name : List.of("feed", "system", "fault", "count", "pair", "normal", "unify", "goal", "expand", "node", "answer", "covers", "show", "out", "tree")) {
            int times = 0;
            for (String other : names) if (other.equals(name)) times++;
            Check.due("methods that are named " + name, times, 1);
        }
        Check.due("classes", Pattern.compile("\\bclass \\w+").matcher(source).results().count() <= 12, true);
    }

    private static void face(String source) {
        Matcher open = Pattern.compile("\\n    (public [^\\n]*)").matcher(source);
        int found = 0;
        while (open.find()) found++;
        Check.due("public members", found, 17);
        Matcher others = Pattern.compile("\\n    (?!public |private |\\}| )\\S[^\\n]*").matcher(source);
        Check.due("members that are neither public nor private", others.find(), false);
    }
}
