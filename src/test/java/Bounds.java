import java.io.IOException;
import java.io.UncheckedIOException;
import java.nio.file.Files;
import java.nio.file.Path;
import java.util.ArrayList;
import java.util.LinkedHashMap;
import java.util.List;
import java.util.Map;

/**
 * What the tests of boundaries have in common. Each check stands under a sentence of the document: a sentence that is
 * not there is a fault, and so is one that names a boundary and has no check.
 */
abstract class Bounds {
    static final Class<?> PLACE = IndexOutOfBoundsException.class;
    static final Class<?> ARGUMENT = IllegalArgumentException.class;
    static final Class<?> STATE = IllegalStateException.class;
    static final Class<?> NONE = java.util.NoSuchElementException.class;
    static final Class<?> UNSUPPORTED = UnsupportedOperationException.class;
    static final int LEAST = Integer.MIN_VALUE;
    static final int GREATEST = Integer.MAX_VALUE;
    private static final int PROMISES = 51;
    private static final int CALLS = 512;

    interface Making {
        CutsetWorks make();
    }

    interface Asking {
        Object of(CutsetWorks x);
    }

    /** A sentence of the document, and how many checks it has. */
    private static final class Sentence {
        final String section;
        final String words;
        int checks;

        Sentence(String section, String words) {
            this.section = section;
            this.words = words;
        }
    }

    private static final Map<String, List<Sentence>> DOCUMENT = read(Path.of("../shared/DOC.md"));
    private static Sentence current = new Sentence("", "");
    private static int checks;
    private static int wrong;

    Bounds() {
    }

    // the document

    private static Map<String, List<Sentence>> read(Path document) {
        Map<String, List<Sentence>> sections = new LinkedHashMap<>();
        String section = "";
        StringBuilder paragraph = new StringBuilder();
        List<String> lines;
        try {
            lines = new ArrayList<>(Files.readAllLines(document));
        } catch (IOException e) {
            throw new UncheckedIOException(e);
        }
        lines.add("");
        for (String line : lines) {
            if (line.isBlank() || line.startsWith("- ") || line.startsWith("#")) {
                section = keep(sections, section, paragraph.toString().trim());
                paragraph.setLength(0);
            }
            if (line.startsWith("#")) {
                section = line.replaceAll("^#+ ", "").replaceAll(":.*", "");
            } else {
                paragraph.append(line).append(' ');
            }
        }
        return sections;
    }

    /** The parts of the terms are sections of their own. Returns the section that goes on behind the paragraph. */
    private static String keep(Map<String, List<Sentence>> sections, String before, String paragraph) {
        String section = before;
        if (paragraph.matches("Part \\d+,.*")) {
            section = paragraph.replaceAll(",.*", "");
        } else if (paragraph.startsWith("Exceptions. ")) {
            section = "Exceptions";
        }
        boolean isTerms = section.startsWith("Part ") || section.equals("Exceptions");
        if (paragraph.isEmpty()) {
            return section;
        }
        for (String words : isTerms ? paragraph.split("(?<=\\.) ") : new String[] {paragraph}) {
            sections.computeIfAbsent(section, name -> new ArrayList<>()).add(new Sentence(section, words));
        }
        return section;
    }

    /** What is checked from now on stands in this section, with these words. */
    static void sentence(String section, String words) {
        Sentence found = null;
        for (Sentence each : DOCUMENT.getOrDefault(section, List.of())) {
            if (each.words.contains(words) && (found == null || each.words.startsWith(words))) {
                found = each;
            }
        }
        current = found != null ? found : new Sentence(section, words);
        if (found == null) {
            tellWrong("the document does not say this");
        }
    }

    static void promise(int number, String words) {
        sentence("Promise " + number, words);
    }

    static void throwing(int promise, Class<?> exception) {
        promise(promise, "Throws `" + exception.getSimpleName() + "`");
    }

    static void returning(int promise) {
        promise(promise, "Returns ");
    }

    /** These sentences name no boundary. */
    private static boolean isNeeded(Sentence each) {
        if (each.section.startsWith("Promise ")) {
            return each.words.startsWith("Throws ") || each.words.startsWith("Returns ")
                    || each.words.startsWith("- ") && each.words.matches(".*\\d.*");
        }
        return (each.section.startsWith("Part ") || each.section.equals("Exceptions"))
                && !each.words.matches("(Part \\d+, [a-z ]+\\.|Exceptions\\.) ?");
    }

    static void finish() {
        int sentences = 0;
        for (int promise = 1; promise <= PROMISES; promise++) {
            boolean isChecked = false;
            for (Sentence each : DOCUMENT.getOrDefault("Promise " + promise, List.of())) {
                isChecked |= each.checks > 0;
            }
            current = new Sentence("Promise " + promise, "");
            if (!isChecked) {
                tellWrong("no check");
            }
        }
        for (List<Sentence> section : DOCUMENT.values()) {
            for (Sentence each : section) {
                current = each;
                sentences += each.checks > 0 ? 1 : 0;
                if (each.checks == 0 && isNeeded(each)) {
                    tellWrong("no check");
                }
            }
        }
        System.out.println(checks + " checks of " + sentences + " sentences, " + wrong + " wrong");
        if (wrong != 0) {
            System.exit(1);
        }
    }

    // checks

    private static void tellWrong(String what) {
        wrong++;
        if (wrong > 40) {
            return;
        }
        StringBuilder at = new StringBuilder();
        for (StackTraceElement each : new Throwable().getStackTrace()) {
            if (!each.getClassName().startsWith("Bounds") || each.getClassName().startsWith("BoundsOf")) {
                at.append(' ').append(each.getFileName()).append(':').append(each.getLineNumber());
            }
        }
        System.out.println(current.section + ", \"" + current.words + "\": " + what + " at" + at);
    }

    static void due(Object got, Object want) {
        checks++;
        current.checks++;
        if (!want.equals(got)) {
            tellWrong(got + ", due is " + want);
        }
    }

    static Object answer(CutsetWorks x, Asking call) {
        try {
            return call.of(x);
        } catch (RuntimeException e) {
            return e.getClass();
        }
    }

    static void asks(CutsetWorks x, Object want, Asking call) {
        due(answer(x, call), want);
    }

    /** The call throws, and nothing has changed: what is asked then is answered as if the call had not been. */
    static void refused(Class<?> want, Making making, Asking call) {
        CutsetWorks x = making.make();
        due(answer(x, call), want);
        due(everything(x), everything(making.make()));
    }

    /** The same of a call to which another exception, that is documented later, would apply as well. */
    static void first(int promise, Class<?> want, Making making, Asking call) {
        Sentence before = current;
        throwing(promise, want);
        refused(want, making, call);
        sentence("Exceptions", "If several exceptions apply, the one that is documented first is thrown.");
        asks(making.make(), want, call);
        current = before;
    }

    /** Answers from which all that an object holds can be told; some of the calls change it. */
    static String everything(CutsetWorks x) {
        return everyAnswer(x).toString();
    }

    /** From 0 on those of nets, from 12 on those of pairs and projects, from 33 of teams, from 61 of the table. */
    static List<Object> everyAnswer(CutsetWorks x) {
        List<Object> all = new ArrayList<>();
        for (int net = 0; net < 4; net++) {
            int n = net;
            all.add(answer(x, w -> w.edges(n)));
            all.add(answer(x, w -> w.checksum(n)));
            all.add(answer(x, w -> w.most(n, 0, 1)));
        }
        pairsAndProjects(x, all);
        league(x, all);
        for (int place = 0; place < 16; place++) {
            int row = place / 4;
            int column = place % 4;
            all.add(answer(x, w -> w.tell(row, column, 0)));
        }
        all.add(answer(x, CutsetWorks::isSound));
        all.add(answer(x, w -> w.net(2)));
        return all;
    }

    private static void pairsAndProjects(CutsetWorks x, List<Object> all) {
        all.add(x.pairs());
        all.add(x.best());
        all.add(x.chosen(false));
        all.add(x.chosen(true));
        for (int index = 0; index < 8; index++) {
            int i = index;
            all.add(answer(x, w -> w.likes(i, 0)));
            all.add(answer(x, w -> w.toolCost(i, 0)));
        }
        all.add(answer(x, w -> w.project(0, 0)));
    }

    private static void league(CutsetWorks x, List<Object> all) {
        for (int team = 0; team < 6; team++) {
            int t = team;
            all.add(answer(x, w -> w.against(t)));
        }
        for (int one = 0; one < 6; one++) {
            for (int other = one + 1; other < 6; other++) {
                int a = one;
                int b = other;
                all.add(answer(x, w -> w.games(a, b, 0)));
            }
        }
        for (int team = 0; team < 6; team++) {
            int t = team;
            all.add(answer(x, w -> w.against(t)));
        }
        all.add(answer(x, w -> w.team(0)));
    }

    // objects

    static CutsetWorks empty() {
        return new CutsetWorks();
    }

    static int[] e(int from, int to, int least, int most, int cost) {
        return new int[] {from, to, least, most, cost};
    }

    static int[] e(int from, int to, int most) {
        return e(from, to, 0, most, 0);
    }

    /** One net; each row: from, to, least, most, cost. */
    static CutsetWorks with(int corners, int[]... edges) {
        CutsetWorks x = new CutsetWorks();
        x.net(corners);
        for (int[] edge : edges) {
            x.edge(0, edge[0], edge[1], edge[2], edge[3], edge[4]);
        }
        return x;
    }

    /** From 0 to 3 by 1 and by 2, and from 1 to 2: 5 can flow. */
    static CutsetWorks diamond() {
        return with(4, e(0, 1, 0, 3, 1), e(0, 2, 0, 2, 4), e(1, 2, 0, 2, 0), e(1, 3, 0, 2, 5), e(2, 3, 0, 4, 1));
    }

    /** As many edges from one corner to another one, all alike. */
    static CutsetWorks many(int edges, int[] edge) {
        CutsetWorks x = new CutsetWorks();
        x.net(2);
        for (int number = 0; number < edges; number++) {
            x.edge(0, edge[0], edge[1], edge[2], edge[3], edge[4]);
        }
        return x;
    }

    /** A net in which nothing can flow, whatever the two corners are: too much must go from 1 and from 4. */
    static CutsetWorks stuck() {
        CutsetWorks x = with(6, e(0, 1, 0, 1, 0), e(1, 2, 2, 2, 0), e(2, 3, 0, 9, 0), e(3, 4, 0, 3, 0),
                e(4, 5, 5, 6, 0), e(5, 0, 0, 9, 0), e(2, 5, 7, 9, 0));
        x.supply(0, 3, 1);
        return x;
    }

    /** All places taken: 4 nets of 8 corners with 16 edges, 6 teams, 8 projects, 16 numbers. */
    static CutsetWorks full() {
        CutsetWorks x = new CutsetWorks();
        for (int net = 0; net < 4; net++) {
            x.net(8);
            for (int edge = 0; edge < 16; edge++) {
                x.edge(net, edge % 8, (edge + 1 + edge / 8 * 2) % 8, 0, 10 + edge + net, edge - net);
            }
            for (int corner = 0; corner < 8; corner++) {
                x.supply(net, corner, net + 1);
            }
        }
        fillOthers(x);
        return x;
    }

    private static void fillOthers(CutsetWorks x) {
        for (int team = 0; team < 6; team++) {
            x.team(50 + team);
            for (int other = 0; other < team; other++) {
                x.games(team, other, team + other);
            }
        }
        x.table(4, 4);
        for (int place = 0; place < 16; place++) {
            x.tell(place / 4, place % 4, 60 * place + 7);
        }
        for (int index = 0; index < 8; index++) {
            x.likes(index, 3 << index & 255);
            x.toolCost(index, 5 + index);
            x.project(10 + index, 1 << index);
        }
    }

    /** Some of each, and room for more. */
    static CutsetWorks some() {
        CutsetWorks x = diamond();
        x.net(3);
        x.edge(1, 0, 2, 1, 4, -3);
        x.supply(1, 0, 3);
        x.supply(1, 2, -3);
        x.team(7);
        x.team(5);
        x.team(6);
        x.games(1, 2, 4);
        x.games(0, 2, 1);
        x.table(2, 3);
        x.tell(1, 2, 456);
        x.tell(0, 1, 5);
        x.likes(0, 3);
        x.likes(7, 1);
        x.project(10, 3);
        x.toolCost(0, 4);
        x.toolCost(7, 9);
        return x;
    }

    /** The same call again and again, up to the last one that the document promises to answer. */
    static void useUp(CutsetWorks x, int used, Asking call) {
        for (int number = used; number < CALLS - 1; number++) {
            answer(x, call);
        }
    }
}
