import java.nio.file.Files;
import java.nio.file.Path;
import java.util.List;
import java.util.regex.Matcher;
import java.util.regex.Pattern;

/** What of ../shared/LANGUAGE.md can be seen in the text of the program; run beside src/. */
public final class Language {
    private static final String[] FORBIDDEN = {
        "\\bpackage\\b", "\\bimport\\b", "\\bthrow\\b", "\\bthrows\\b", "\\btry\\b", "\\bcatch\\b", "\\bfinally\\b",
        "\\bsynchronized\\b", "\\bassert\\b", "->", "::", "\\bvolatile\\b", "\\bnative\\b", "\\btransient\\b",
        "\\bhashCode\\b", "\\btoString\\b", "\\bequals\\b", "\\bSystem\\b(?!\\.arraycopy)", "\\bObject\\b", "\\bThread\\b",
        "\\bvar\\b", "\\bprotected\\b", "Exact\\(", "[^\\x00-\\x7f]", "\\bwhile \\(true\\)", "for \\(; *;", "static \\{"};
    private static final int LONGEST_METHOD = 60;

    private static int wrong;

    private static void fault(int line, String what) {
        wrong++;
        System.out.println("language: line " + line + ": " + what);
    }

    public static void main(String[] args) throws Exception {
        List<String> lines = Files.readAllLines(Path.of("src/main/java/LoopTypes.java"));
        boolean comment = false;
        for (int at = 0; at < lines.size(); at++) {
            String line = lines.get(at);
            String trimmed = line.trim();
            comment = comment || trimmed.startsWith("/*");
            if (!comment) {
                checkLine(at + 1, line.replaceAll("//.*", ""));
            }
            comment = comment && !trimmed.endsWith("*/");
        }
        checkMethodLengths(lines);
        System.out.println(wrong == 0 ? "language: no fault seen" : "language: " + wrong + " faults");
        if (wrong != 0) {
            System.exit(1);
        }
    }

    private static void checkLine(int number, String line) {
        for (String pattern : FORBIDDEN) {
            Matcher matcher = Pattern.compile(pattern).matcher(line);
            if (matcher.find()) {
                fault(number, matcher.group());
            }
        }
    }

    /** A method begins with a line that ends in ") {" at one of two depths and ends with its bracket there. */
    private static void checkMethodLengths(List<String> lines) {
        for (String indent : List.of("    ", "        ")) {
            int begun = -1;
            for (int at = 0; at < lines.size(); at++) {
                String line = lines.get(at);
                if (line.matches(indent + "[a-zA-Z].*\\) \\{")) {
                    begun = at;
                } else if (line.equals(indent + "}") && begun >= 0) {
                    if (at - begun + 1 > LONGEST_METHOD) {
                        fault(begun + 1, "a method of " + (at - begun + 1) + " lines");
                    }
                    begun = -1;
                }
            }
        }
    }
}
