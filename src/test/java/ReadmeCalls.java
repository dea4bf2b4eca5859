import java.nio.charset.StandardCharsets;
import java.nio.file.Files;
import java.nio.file.Path;
import java.util.ArrayList;
import java.util.List;
import java.util.regex.Matcher;
import java.util.regex.Pattern;
import java.util.stream.Stream;

/**
 * What README.md shows: its program is compiled and run by the lines that stand there, and each line
 * that it prints compared with the number behind the call; run beside README.md.
 */
public final class ReadmeCalls {
    private static final Pattern PRINTED = Pattern.compile("print\\((.*)\\);\\s*// (-?\\d+)(:.*)?");
    private static final String[] CALLS = {"type", "clear", "read", "order", "under", "alike", "apart", "near", "shared",
        "way", "size", "head", "code", "deep", "heads", "many", "looping", "filled", "least", "signs", "base", "make",
        "part", "copy", "bound", "swap", "cut", "turn", "draw", "back", "told", "digest"};

    private static int wrong;

    private static void due(boolean holds, String what) {
        if (!holds) {
            wrong++;
            System.out.println("readme: " + what);
        }
    }

    public static void main(String[] args) throws Exception {
        List<String> readme = Files.readAllLines(Path.of("README.md"));
        List<String> program = block(readme, "```java");
        List<String> shell = block(readme, "```sh");
        checkShown(program);
        Path folder = Files.createTempDirectory("readme");
        try {
            Files.write(folder.resolve("Yours.java"), program);
            List<String> printed = List.of();
            for (String line : shell) {
                printed = said(line, folder);
            }
            compare(program, printed);
        } finally {
            remove(folder);
        }
        System.out.println(wrong == 0 ? "readme: all its calls answer as it says" : "readme: " + wrong + " faults");
        if (wrong != 0) {
            System.exit(1);
        }
    }

    /** The lines of the first block that begins so. */
    private static List<String> block(List<String> lines, String begin) {
        List<String> found = new ArrayList<>();
        int at = lines.indexOf(begin) + 1;
        due(at > 0, "no block " + begin);
        for (; at > 0 && at < lines.size() && !lines.get(at).equals("```"); at++) {
            found.add(lines.get(at));
        }
        return found;
    }

    private static void checkShown(List<String> program) {
        String all = String.join("\n", program);
        for (String call : CALLS) {
            due(all.contains("x." + call + "("), "no call of " + call + " is shown");
        }
    }

    /** The lines are told for the project's folder; only Yours.java and out are in a folder of their own here. */
    private static List<String> said(String line, Path folder) throws Exception {
        List<String> words = new ArrayList<>(List.of(line.split(" ")));
        for (int at = 0; at < words.size(); at++) {
            if (words.get(at).equals("Yours.java") || words.get(at).equals("out")) {
                words.set(at, folder.resolve(words.get(at)).toString());
            }
        }
        Process process = new ProcessBuilder(words).redirectError(ProcessBuilder.Redirect.INHERIT).start();
        String text = new String(process.getInputStream().readAllBytes(), StandardCharsets.UTF_8);
        int code = process.waitFor();
        due(code == 0, line + " ends with " + code);
        return text.lines().toList();
    }

    private static void compare(List<String> program, List<String> printed) {
        int at = 0;
        for (String line : program) {
            Matcher matcher = PRINTED.matcher(line.trim());
            if (matcher.matches()) {
                String got = at < printed.size() ? printed.get(at) : "nothing";
                due(got.equals(matcher.group(2)), matcher.group(1) + " answered " + got + ", README.md says " + matcher.group(2));
                at++;
            } else {
                due(!line.trim().startsWith("print("), "no answer behind " + line.trim());
            }
        }
        due(at > 0 && at == printed.size(), at + " lines are told, " + printed.size() + " printed");
    }

    private static void remove(Path folder) throws Exception {
        List<Path> paths;
        try (Stream<Path> walk = Files.walk(folder)) {
            paths = walk.toList();
        }
        for (int at = paths.size() - 1; at >= 0; at--) {
            Files.delete(paths.get(at));
        }
    }
}
