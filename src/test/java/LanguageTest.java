import java.io.IOException;
import java.nio.file.Files;
import java.nio.file.Path;
import java.util.List;
import java.util.regex.Matcher;
import java.util.regex.Pattern;

/** Some of the rules of LANGUAGE.md that can be read off the source. */
public final class LanguageTest {
    private static final String[] NEVER = {
        "->", "::", "Exact\\(", "\\bcatch\\b", "\\btry\\b", "\\bfinally\\b", "\\bsynchronized\\b", "\\bassert\\b",
        "\\bpackage\\b", "static \\{", "\\binstanceof\\b", "\\bSystem\\b", "\\bObject\\b", "\\bMath\\b",
        "\\bRandom\\b", "\\bThread\\b", "\\bArrays\\b", "\\bequals\\b", "\\bhashCode\\b", "\\btoString\\b"};
    private static final int LONGEST_METHOD = 60;
    private static final int MOST_CLASSES = 12;

    private static int wrong;

    public static void main(String[] args) throws IOException {
        List<String> lines = Files.readAllLines(Path.of("src/main/java/CutsetWorks.java"));
        int classes = 0;
        int begin = 0;
        for (int number = 0; number < lines.size(); number++) {
            String code = lines.get(number).replaceAll("\"[^\"]*\"", "\"\"");
            String text = code.trim();
            need(text.length() == text.codePoints().filter(c -> c < 128).count(), number, "a sign is not plain");
            if (text.startsWith("*") || text.startsWith("/*") || text.startsWith("//")) {
                continue;
            }
            for (String never : NEVER) {
                need(!Pattern.compile(never).matcher(code).find(), number, never);
            }
            need(!text.startsWith("import ") || text.equals("import java.util.NoSuchElementException;"), number, text);
            need(!text.startsWith("throw ") || text.matches("throw new [A-Za-z]+Exception\\(\"\"\\);"), number, text);
            classes += text.contains(" class ") ? 1 : 0;
            int indent = code.length() - code.stripLeading().length();
            if (isMethod(code)) {
                begin = number;
            }
            if (text.equals("}") && indent <= 8) {
                need(number - begin < LONGEST_METHOD || indent == 0 || indent == 4 && isClassEnd(lines, number), number,
                        "a method is too long");
            }
            checkMaking(code, number);
        }
        need(classes <= MOST_CLASSES, 0, classes + " classes");
        System.out.println(wrong == 0 ? "the source keeps to the rules that are looked at" : wrong + " faults");
        if (wrong != 0) {
            System.exit(1);
        }
    }

    private static boolean isMethod(String code) {
        return Pattern.compile("^ {4,8}[A-Za-z].*\\(").matcher(code).find() && !code.contains(";");
    }

    private static boolean isClassEnd(List<String> lines, int number) {
        return lines.get(number - 1).equals("        }") || lines.get(number - 1).isBlank();
    }

    /** Rows and objects are made in constructors alone, but for a net and exceptions. */
    private static void checkMaking(String code, int number) {
        Matcher made = Pattern.compile("\\bnew ([A-Za-z]+)").matcher(code);
        while (made.find()) {
            boolean isField = code.matches(" {8,12}[A-Za-z]+ = new .*");
            boolean isNet = code.contains("= new Net(corners)");
            boolean isThrown = code.contains("throw new ");
            need(isField || isNet || isThrown, number, "something is made: " + code.trim());
        }
    }

    private static void need(boolean isSo, int number, String what) {
        if (!isSo) {
            wrong++;
            System.out.println("line " + (number + 1) + ": " + what);
        }
    }
}
