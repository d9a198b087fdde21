import java.io.ByteArrayOutputStream;
import java.io.IOException;
import java.io.PrintStream;
import java.net.URL;
import java.net.URLClassLoader;
import java.nio.file.Files;
import java.nio.file.Path;
import java.util.ArrayList;
import java.util.Comparator;
import java.util.LinkedHashMap;
import java.util.List;
import java.util.Map;
import java.util.TreeMap;
import java.util.regex.Matcher;
import java.util.regex.Pattern;
import java.util.stream.Stream;
import javax.tools.ToolProvider;

/** README.md is right: its first program prints what it tells, and its tables name the calls as the document does. */
public final class ReadmeTest {
    private static final Path README = Path.of("README.md");
    private static final Path DOCUMENT = Path.of("../shared/DOC.md");
    private static final Path SOURCE = Path.of("src/main/java/CutsetWorks.java");
    private static int wrong;

    public static void main(String[] args) throws IOException, ReflectiveOperationException {
        String readme = Files.readString(README);
        checkTables(readme);
        checkProgram(readme);
        checkNames(readme);
        System.out.println(wrong == 0 ? "the README tells what is so" : wrong + " faults of the README");
        if (wrong != 0) {
            System.exit(1);
        }
    }

    // the tables: a row for each call, with the number of its promise, as it is written in the face, and what it throws

    private static void checkTables(String readme) throws IOException {
        Map<String, String> told = new TreeMap<>();
        for (String line : readme.split("\n")) {
            String[] cells = line.split("\\|", -1);
            if (line.matches("\\| \\d+ \\|.*")) {
                need(cells.length == 6, "a row has not four cells: " + line);
                String call = cells[2].trim().replace("`", "");
                need(!cells[3].isBlank(), "a row tells no answer: " + line);
                need(told.put(call, cells[1].trim() + exceptions(cells[4])) == null, "two rows of " + call);
            }
        }
        Map<String, String> due = face();
        need(due.size() == 50, "the face has 50 calls, but " + due.size() + " were read");
        for (String call : due.keySet()) {
            need(due.get(call).equals(told.get(call)), call + " is told as " + told.get(call) + ", due is " + due.get(call));
        }
        for (String call : told.keySet()) {
            need(due.containsKey(call), "the face has no " + call);
        }
    }

    private static String exceptions(String cell) {
        StringBuilder names = new StringBuilder();
        for (String part : cell.trim().split("; ")) {
            Matcher name = Pattern.compile("^([A-Za-z]+): \\S.*").matcher(part);
            if (name.matches()) {
                names.append(' ').append(name.group(1));
            } else {
                need(part.isEmpty(), "an exception without a name: " + cell);
            }
        }
        return names.toString();
    }

    /** Each call of the document's face, with the number of its promise and the exceptions behind it. */
    private static Map<String, String> face() throws IOException {
        Map<String, String> found = new LinkedHashMap<>();
        List<String> names = new ArrayList<>();
        for (String line : Files.readAllLines(DOCUMENT)) {
            Matcher call = Pattern.compile("    public (\\w+ (\\w+)\\(.*\\))(?: throws (.*))?;").matcher(line);
            Matcher promise = Pattern.compile("## Promise (\\d+): (\\w+)").matcher(line);
            if (call.matches()) {
                String thrown = call.group(3) == null ? "" : " " + call.group(3).replace("Exception", "").replace(",", "");
                found.put(call.group(1), thrown);
                names.add(call.group(2));
            } else if (promise.matches()) {
                int index = names.indexOf(promise.group(2));
                if (index >= 0) {
                    String key = new ArrayList<>(found.keySet()).get(index);
                    found.put(key, promise.group(1) + found.get(key));
                }
            }
        }
        return found;
    }

    // the first program

    private static void checkProgram(String readme) throws IOException, ReflectiveOperationException {
        String program = block(readme, "java");
        String due = block(readme, "text");
        Path folder = Files.createTempDirectory("readme");
        try {
            Path file = folder.resolve("First.java");
            Files.writeString(file, program);
            int code = ToolProvider.getSystemJavaCompiler().run(null, null, null, "-encoding", "UTF-8", "-d",
                    folder.toString(), SOURCE.toString(), file.toString());
            need(code == 0, "the first program does not compile");
            if (code == 0) {
                String got = printed(folder);
                need(got.equals(due), "the first program prints\n" + got + "due is\n" + due);
            }
        } finally {
            remove(folder);
        }
    }

    /** What stands between the first line ```kind and the next line ```. */
    private static String block(String readme, String kind) {
        Matcher found = Pattern.compile("(?s)\n```" + kind + "\n(.*?)\n```\n").matcher(readme);
        boolean isThere = found.find();
        need(isThere, "the README has no block of " + kind);
        return isThere ? found.group(1) + "\n" : "";
    }

    private static String printed(Path folder) throws IOException, ReflectiveOperationException {
        PrintStream before = System.out;
        ByteArrayOutputStream bytes = new ByteArrayOutputStream();
        try (URLClassLoader loader = new URLClassLoader(new URL[] {folder.toUri().toURL()},
                ClassLoader.getPlatformClassLoader())) {
            System.setOut(new PrintStream(bytes, true));
            loader.loadClass("First").getMethod("main", String[].class).invoke(null, (Object) new String[0]);
        } finally {
            System.setOut(before);
        }
        return bytes.toString().replace("\r", "");
    }

    private static void remove(Path folder) throws IOException {
        try (Stream<Path> files = Files.walk(folder)) {
            for (Path each : files.sorted(Comparator.reverseOrder()).toList()) {
                Files.delete(each);
            }
        }
    }

    /** Each file of the tests is named, and what is named as a test or a file is there. */
    private static void checkNames(String readme) throws IOException {
        try (Stream<Path> files = Files.list(Path.of("src/test/java"))) {
            for (Path each : files.toList()) {
                String name = each.getFileName().toString().replace(".java", "");
                need(readme.contains("`" + name + "`"), "the README does not name " + name);
            }
        }
        Matcher named = Pattern.compile("`(\\w+Test)`").matcher(readme);
        while (named.find()) {
            need(Files.exists(Path.of("src/test/java/" + named.group(1) + ".java")), "there is no " + named.group(1));
        }
        Matcher paths = Pattern.compile("(?:\\.\\./shared|src)/[\\w/]*\\w\\.(?:java|md)").matcher(readme);
        while (paths.find()) {
            need(Files.exists(Path.of(paths.group())), "there is no " + paths.group());
        }
    }

    private static void need(boolean isSo, String what) {
        if (!isSo) {
            wrong++;
            System.out.println(what);
        }
    }
}
