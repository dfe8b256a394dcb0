import java.io.IOException;
import java.lang.reflect.Array;
import java.lang.reflect.Field;
import java.lang.reflect.Method;
import java.lang.reflect.Modifier;
import java.nio.file.Files;
import java.nio.file.Path;
import java.util.ArrayList;
import java.util.Arrays;
import java.util.HashMap;
import java.util.List;
import java.util.Map;
import java.util.TreeSet;
import java.util.regex.Matcher;
import java.util.regex.Pattern;
import java.util.stream.Stream;

/** What README.md says of the class and of its tests is so. */
public final class ReadmeTests {
    private static final Path CLASS = Path.of("src/main/java/TableauNodes.java");
    private static final Path DOCUMENT = Path.of("../shared/DOC.md");
    private static final Map<String, Method> FACE = face();

    private static int wrong = 0;
    private static String readme = "";

    public static void main(String[] args) throws Exception {
        readme = Files.readString(Path.of("README.md"));
        constants();
        example();
        callsOfTheFace();
        specialAnswers();
        kinds();
        limits();
        shortPlaces();
        sizeOfAnObject();
        noNewInCalls();
        classesInside();
        listOfTests();
        System.out.println(wrong == 0 ? "what README.md says is so" : wrong + " things are not so");
        if (wrong != 0) {
            System.exit(1);
        }
    }

    private static void tell(String what) {
        wrong++;
        System.out.println(what);
    }

    private static void due(String what, Object got, Object want) {
        if (!got.equals(want)) {
            tell(what + " is " + got + ", README.md or the document has " + want);
        }
    }

    private static Map<String, Method> face() {
        Map<String, Method> all = new HashMap<>();
        for (Method m : TableauNodes.class.getDeclaredMethods()) {
            if (Modifier.isPublic(m.getModifiers())) {
                all.put(m.getName(), m);
            }
        }
        return all;
    }

    private static int call(TableauNodes x, String name, int... numbers) throws Exception {
        Object[] boxed = Arrays.stream(numbers).boxed().toArray();
        return (Integer) FACE.get(name).invoke(x, boxed);
    }

    /** The cells of the rows of the table whose first head is this one. */
    private static List<String[]> table(String firstHead) {
        List<String[]> rows = new ArrayList<>();
        boolean in = false;
        for (String line : readme.split("\n")) {
            boolean isRow = line.startsWith("|");
            if (in && isRow && !line.startsWith("|---")) {
                String[] cells = line.substring(1).split("\\|", -1);
                rows.add(Arrays.stream(cells).map(String::trim).toArray(String[]::new));
            }
            in = isRow && (in || line.startsWith("| " + firstHead + " |"));
        }
        if (rows.isEmpty()) {
            tell("README.md has no table of: " + firstHead);
        }
        return rows;
    }

    private static void constants() {
        for (String said : List.of("`BAD` (" + TableauNodes.BAD + ")", "`NO` (" + TableauNodes.NO + ")",
                "`FULL` (" + TableauNodes.FULL + ")")) {
            if (!readme.contains("- " + said + ": ")) {
                tell("README.md does not tell what this means: " + said);
            }
        }
    }

    /** Each line is a call with its answer behind it, and no call of the face is left out. */
    private static void example() throws Exception {
        Pattern form = Pattern.compile("(?:int (\\w+) = )?x\\.(\\w+)\\(([^()]*)\\);\\s+// (-?\\d+)(: (BAD|NO|FULL)\\b.*|: .*)?");
        Map<String, Integer> names = new HashMap<>();
        TreeSet<String> used = new TreeSet<>();
        TableauNodes x = null;
        for (String line : block("java")) {
            Matcher m = form.matcher(line);
            if (line.equals("TableauNodes x = new TableauNodes();")) {
                x = new TableauNodes();
            } else if (x == null || !m.matches() || !FACE.containsKey(m.group(2))) {
                tell("README.md's example has a line that no answer can be held against: " + line);
            } else {
                int got = call(x, m.group(2), numbers(m.group(3), names));
                due(line, got, Integer.valueOf(m.group(4)));
                used.add(m.group(2));
                if (m.group(1) != null) {
                    names.put(m.group(1), got);
                }
                due(line, nameOf(got), m.group(6) == null ? "" : m.group(6));
            }
        }
        due("what the example calls", used, new TreeSet<>(FACE.keySet()));
    }

    private static String nameOf(int answer) {
        return switch (answer) {
            case TableauNodes.BAD -> "BAD";
            case TableauNodes.NO -> "NO";
            case TableauNodes.FULL -> "FULL";
            default -> "";
        };
    }

    private static List<String> block(String language) {
        String[] pieces = readme.split("```" + language + "\n");
        if (pieces.length != 2) {
            tell("README.md has not one example, but " + (pieces.length - 1));
            return List.of();
        }
        return pieces[1].split("```")[0].lines().filter(line -> !line.isBlank()).toList();
    }

    private static int[] numbers(String list, Map<String, Integer> names) {
        return Arrays.stream(list.split(", ")).filter(part -> !part.isEmpty())
                .mapToInt(part -> names.containsKey(part) ? names.get(part) : Integer.parseInt(part)).toArray();
    }

    private static void callsOfTheFace() throws IOException {
        List<String> told = new ArrayList<>();
        for (String[] row : table("call")) {
            told.add(row[0].replace("`", ""));
        }
        List<String> asked = new ArrayList<>();
        Matcher m = Pattern.compile("(?m)^ {4}public ((?:int )?\\w+\\([^)]*\\));$").matcher(Files.readString(DOCUMENT));
        while (m.find()) {
            asked.add(m.group(1));
        }
        due("README.md's list of calls", told, asked);
        due("the number of calls", told.size(), FACE.size() + 1);
    }

    /** Which of BAD, NO and FULL a call answers is seen on objects that are empty, used and full. */
    private static void specialAnswers() throws Exception {
        for (String[] row : table("call")) {
            String name = row[0].replaceAll("`(int )?|\\(.*", "");
            if (!FACE.containsKey(name)) {
                continue;
            }
            TreeSet<String> told = new TreeSet<>();
            Matcher m = Pattern.compile("\\b(BAD|NO|FULL): ").matcher(row[2]);
            while (m.find()) {
                told.add(m.group(1));
            }
            due("what else " + name + " answers", specialsOf(name), told);
        }
    }

    private static TreeSet<String> specialsOf(String name) throws Exception {
        TreeSet<String> seen = new TreeSet<>();
        int count = FACE.get(name).getParameterCount();
        int[] tried = {-1, 0, 1, 2, 3, 4, 5, 6, 7, 8, 9, 10, 80, 1023, 1024};
        List<Sentences.Calls> states = List.of(States.EMPTY, States.ORDINARY, States.FULL_OF_CONCEPTS,
                States.FULL_OF_ATOMS, States.ALL_FULL, x -> x.individual(0, 1));
        for (Sentences.Calls state : states) {
            int ways = (int) Math.pow(tried.length, count);
            TableauNodes x = null;
            for (int way = 0; way < ways; way++) {
                x = way % 100 == 0 ? Sentences.made(state) : x;
                int[] numbers = new int[count];
                for (int n = 0, left = way; n < count; n++, left /= tried.length) {
                    numbers[n] = tried[left % tried.length];
                }
                seen.add(nameOf(call(x, name, numbers)));
            }
        }
        seen.remove("");
        return seen;
    }

    /** One concept of each kind; A and B are no roles, so that a role in their place is BAD. */
    private static void kinds() throws Exception {
        TableauNodes x = Sentences.made(y -> States.fillTo(y, 7));
        Map<String, Integer> numbers = Map.of("A", 5, "B", 6, "k", 7, "r", 3, "0", 0);
        String document = Files.readString(DOCUMENT);
        List<String[]> rows = table("kind");
        due("the number of kinds", rows.size(), 8);
        for (String[] row : rows) {
            due("that " + row[1] + " is kind " + row[0], document.contains(" " + row[0] + " " + row[1]), true);
            int kind = Integer.parseInt(row[0]);
            String letters = row[1].replaceAll("\\w{2,} ?| ", "") + "00";
            int first = numbers.get(row[2]);
            int second = numbers.get(row[3].replaceAll(" \\(.*", ""));
            due("the numbers of " + row[1], row[2] + row[3].replaceAll(" \\(.*", ""), letters.substring(0, 2));
            int b = row[3].contains("(b is not looked at)") ? 99 : second;
            int made = kind < 2 ? kind : kind == 2 ? x.class0(first) : x.concept(kind, first, b);
            due("the kind of " + row[1], x.told(made, 0), kind);
            due("the first number of " + row[1], x.told(made, 1), first);
            due("the second number of " + row[1], x.told(made, 2), second);
        }
        due("what concept makes of kind 2", x.concept(2, 0, 0), TableauNodes.BAD);
        TableauNodes y = new TableauNodes();
        due("ALL r A", y.concept(7, 3, 0), 4);
        due("NOT A before it", y.told(2, 0), 3);
        due("SOME r NOT A before it", y.told(3, 0), 6);
    }

    private static void limits() throws Exception {
        Map<String, Integer> seen = new HashMap<>();
        seen.put("concepts", Sentences.made(x -> States.fillTo(x, 100)).concepts());
        seen.put("names", notBad("class0"));
        seen.put("roles", notBad("role", 0));
        seen.put("atoms (names and SOMEs)", Sentences.made(x -> States.makeSomes(x, 12)).atoms());
        seen.put("axioms", untilFull("axiom", 0, 0));
        seen.put("things", notBad("model"));
        seen.put("said: thing i is an A", untilFull("individual", 0, 0));
        seen.put("said: thing i has thing j by r", untilFull("has", 0, 0, 0));
        seen.put("calls with a promised answer", callsInDocument());
        for (String[] row : table("what")) {
            due("the limit of " + row[0], seen.getOrDefault(row[0], -1), Integer.valueOf(row[1]));
            seen.remove(row[0]);
        }
        due("limits that are not told", seen, Map.of());
    }

    private static int notBad(String name, int... after) throws Exception {
        TableauNodes x = new TableauNodes();
        int[] numbers = new int[after.length + 1];
        System.arraycopy(after, 0, numbers, 1, after.length);
        int count = 0;
        for (numbers[0] = -100; numbers[0] <= 100; numbers[0]++) {
            count += call(x, name, numbers) == TableauNodes.BAD ? 0 : 1;
        }
        return count;
    }

    private static int untilFull(String name, int... numbers) throws Exception {
        TableauNodes x = new TableauNodes();
        int count = 0;
        while (count < 100 && call(x, name, numbers) != TableauNodes.FULL) {
            count++;
        }
        return count;
    }

    private static int callsInDocument() throws IOException {
        Matcher m = Pattern.compile("at most (\\d+) calls").matcher(Files.readString(DOCUMENT));
        return m.find() ? Integer.parseInt(m.group(1)) : -1;
    }

    /** The points under "Where the document is short", in their order. */
    private static void shortPlaces() {
        TableauNodes full = Sentences.made(States.ALL_FULL);
        due("a wrong name, full", full.class0(10), TableauNodes.BAD);
        due("a wrong concept, full", full.concept(3, 80, 0), TableauNodes.BAD);
        due("a wrong axiom, full", full.axiom(0, 80), TableauNodes.BAD);
        due("a wrong thing, full", full.individual(5, 0), TableauNodes.BAD);
        due("a wrong role, full", full.has(0, 4, 0), TableauNodes.BAD);
        TableauNodes none = Sentences.made(x -> x.individual(0, 1));
        due("a wrong thing, no model", none.model(5), TableauNodes.BAD);
        TableauNodes never = Sentences.made(x -> x.axiom(0, 1));
        due("a wrong type, none there at first", never.depth(1), TableauNodes.BAD);

        due("a name that is there, full", full.class0(4), 6);
        due("another name, full", full.class0(5), TableauNodes.FULL);
        due("ALL that is there, full", full.concept(7, 0, 2), 9);

        TableauNodes atoms = Sentences.made(States.FULL_OF_ATOMS);
        due("ALL without room for its SOME", atoms.concept(7, 0, 5), TableauNodes.FULL);
        due("concepts after it", atoms.concepts(), 13);
        due("its NOT", atoms.told(12, 0), 3);

        TableauNodes x = new TableauNodes();
        due("A AND B", x.concept(4, 0, 1), 2);
        due("B AND A", x.concept(4, 1, 0), 3);
        due("A OR B", x.concept(5, 0, 1), 4);
        due("B OR A", x.concept(5, 1, 0), 5);
        due("an axiom", x.axiom(0, 2), 0);
        due("the same axiom", x.axiom(0, 2), 1);
        due("said", x.individual(0, 0), 1);
        due("said again", x.individual(0, 0), 2);
        due("had", x.has(0, 0, 0), 1);
        due("had again", x.has(0, 0, 0), 2);
        due("a role axiom", x.role(0, 1), 1);
        due("the same role axiom", x.role(0, 1), 0);
        due("the next role axiom", x.role(1, 2), 1);
        due("the role axiom that follows", x.role(0, 2), 1);
        due("a role under itself", x.role(3, 3), 1);
    }

    private static void sizeOfAnObject() throws Exception {
        Matcher m = Pattern.compile("fewer than ([\\d,]+) elements in all").matcher(readme);
        int most = m.find() ? Integer.parseInt(m.group(1).replace(",", "")) : 0;
        int size = elementsOf(new TableauNodes());
        if (size >= most || size < most * 9 / 10) {
            tell("the arrays of an object have " + size + " elements, README.md says fewer than " + most);
        }
    }

    /** Some objects inside are held by two others: each is looked into once. */
    private static int elementsOf(Object holder) throws Exception {
        List<Object> seen = new ArrayList<>(List.of(holder));
        int sum = 0;
        for (int n = 0; n < seen.size(); n++) {
            for (Field f : seen.get(n).getClass().getDeclaredFields()) {
                if (Modifier.isStatic(f.getModifiers()) || f.getType().isPrimitive()) {
                    continue;
                }
                f.setAccessible(true);
                Object held = f.get(seen.get(n));
                if (held.getClass().isArray()) {
                    sum += Array.getLength(held);
                } else if (seen.stream().noneMatch(other -> other == held)) {
                    seen.add(held);
                }
            }
        }
        return sum;
    }

    /** An object or array is made where a field is declared, or in the constructor, and nowhere else. */
    private static void noNewInCalls() throws IOException {
        String code = Files.readString(CLASS).replaceAll("(?s)/\\*.*?\\*/", "").replaceAll("//.*", "");
        for (String line : code.split("\n")) {
            boolean inField = line.matches(" +private final \\w+\\[\\] \\w+ = new \\w+\\[.*\\];");
            boolean inConstructor = line.matches(" {8}\\w+ = new \\w+\\(.*\\);");
            if (line.contains("new ") && !inField && !inConstructor) {
                tell("this makes an object or an array in a call: " + line.trim());
            }
        }
    }

    private static void classesInside() {
        TreeSet<String> inside = new TreeSet<>();
        for (Class<?> c : TableauNodes.class.getDeclaredClasses()) {
            inside.add(c.getSimpleName());
        }
        due("the classes inside", inside, namesListed("How it works"));
    }

    private static void listOfTests() throws IOException {
        TreeSet<String> tests = new TreeSet<>();
        try (Stream<Path> files = Files.list(Path.of("src/test/java"))) {
            files.forEach(file -> tests.add(file.getFileName().toString().replace(".java", "")));
        }
        due("the tests", tests, namesListed("Tests"));
        for (String path : List.of("src/test/support", ".ci/run", "src/main/java/TableauNodes.java")) {
            if (!readme.contains(path) || !Files.exists(Path.of(path))) {
                tell("not in README.md, or not there: " + path);
            }
        }
    }

    /** The names with which the points of a part begin. */
    private static TreeSet<String> namesListed(String part) {
        TreeSet<String> names = new TreeSet<>();
        String body = readme.split("## " + part + "\n", 2)[1].split("\n## ")[0];
        Matcher points = Pattern.compile("(?m)^- ((?:`\\w+`(?:, )?)+)").matcher(body);
        while (points.find()) {
            for (String name : points.group(1).split(", ")) {
                names.add(name.replace("`", ""));
            }
        }
        return names;
    }
}
