import java.io.IOException;
import java.nio.file.Files;
import java.nio.file.Path;
import java.util.ArrayList;
import java.util.HashMap;
import java.util.List;
import java.util.Map;

/**
 * Holds answers against the document, one sentence of it after the other. A sentence must stand in
 * the document as it is quoted, and at the end no sentence of the named parts may lack its test.
 */
final class Sentences {
    /** A run of calls that brings an object into a state. */
    interface Calls {
        void on(TableauNodes x);
    }

    /** One call. */
    interface Ask {
        int of(TableauNodes x);
    }

    /** So many questions go to one object, that with the calls before them it stays under 512. */
    private static final int QUESTIONS_AT_ONCE = 150;

    private final Map<String, String> parts = new HashMap<>();
    private final Map<String, List<String>> quotes = new HashMap<>();
    private final List<Ask> questions = new ArrayList<>();
    private final List<String> questionNames = new ArrayList<>();
    private final List<Ask> changes = new ArrayList<>();
    private final List<String> changeNames = new ArrayList<>();
    private final Map<Calls, int[]> answersBefore = new HashMap<>();
    private String part = "";
    private String quote = "";
    private int wrong = 0;

    Sentences() {
        readDocument();
        listQuestions();
        listChanges();
    }

    /** Where the document is not at hand, the answers are still held, only the quotes are not. */
    private void readDocument() {
        Path document = Path.of("../shared/DOC.md");
        if (!Files.exists(document)) {
            System.out.println("no " + document + ": quotes are not held against it");
            return;
        }
        try {
            String text = Files.readString(document);
            for (String piece : text.split("(?m)^## ")) {
                String[] headAndBody = piece.split("\n", 2);
                String body = headAndBody.length < 2 ? "" : headAndBody[1];
                parts.put(headAndBody[0].replaceAll(":.*", ""), body.replaceAll("\\s+", " ").trim());
            }
        } catch (IOException e) {
            tell("the document can't be read: " + e);
        }
    }

    private void tell(String what) {
        wrong++;
        System.out.println(what);
    }

    /** From here on the answers are those that this sentence asks for. */
    void says(String part, String quote) {
        this.part = part;
        this.quote = quote;
        quotes.computeIfAbsent(part, p -> new ArrayList<>()).add(quote);
        if (!parts.isEmpty() && !parts.getOrDefault(part, "").contains(quote)) {
            tell(part + " does not say: " + quote);
        }
    }

    void due(String call, int got, int want) {
        if (got != want) {
            tell(part + " (\"" + quote + "\"): " + call + " answered " + got + ", due is " + want);
        }
    }

    /** Each sentence of a part must stand in a quote, or a quote in it. */
    void allHeld(String part) {
        if (parts.isEmpty()) {
            return;
        }
        String text = parts.getOrDefault(part, "").replaceAll("^`[^`]*`: ", "");
        for (String sentence : text.split("(?<=[a-zA-Z0-9)]\\.) (?=[A-Z`])")) {
            boolean held = false;
            for (String said : quotes.getOrDefault(part, List.of())) {
                held = held || said.contains(sentence) || sentence.contains(said);
            }
            if (!held) {
                tell(part + " says, but no test holds: " + sentence);
            }
        }
    }

    void end() {
        System.out.println(wrong == 0 ? "all answers are as due" : wrong + " answers are not as due");
        if (wrong != 0) {
            System.exit(1);
        }
    }

    static TableauNodes made(Calls before) {
        TableauNodes x = new TableauNodes();
        before.on(x);
        return x;
    }

    /** Each of the calls has this answer, and after all of them everything is as it was. */
    void refused(String what, Calls before, int answer, List<Ask> calls) {
        TableauNodes x = made(before);
        for (int n = 0; n < calls.size(); n++) {
            due(what + ", number " + n, calls.get(n).of(x), answer);
        }
        int[] old = answersBefore.computeIfAbsent(before, this::answersAfter);
        int[] now = answersAfter(y -> {
            before.on(y);
            for (Ask call : calls) {
                call.of(y);
            }
        });
        for (int n = 0; n < old.length; n++) {
            due("after " + what + ": " + nameOf(n), now[n], old[n]);
        }
    }

    private String nameOf(int n) {
        return n < questions.size() ? questionNames.get(n) : changeNames.get(n - questions.size());
    }

    /** What every question answers, and every call that changes something: that on its own object. */
    private int[] answersAfter(Calls before) {
        int[] answers = new int[questions.size() + changes.size()];
        TableauNodes x = null;
        for (int n = 0; n < questions.size(); n++) {
            x = n % QUESTIONS_AT_ONCE == 0 ? made(before) : x;
            answers[n] = questions.get(n).of(x);
        }
        for (int n = 0; n < changes.size(); n++) {
            answers[questions.size() + n] = changes.get(n).of(made(before));
        }
        return answers;
    }

    private void question(String name, Ask ask) {
        questionNames.add(name);
        questions.add(ask);
    }

    private void change(String name, Ask ask) {
        changeNames.add(name);
        changes.add(ask);
    }

    private void listQuestions() {
        question("concepts()", x -> x.concepts());
        question("atoms()", x -> x.atoms());
        question("types()", x -> x.types());
        question("rounds()", x -> x.rounds());
        question("run()", x -> x.run());
        for (int n = 0; n < 5; n++) {
            int i = n;
            question("model(" + i + ")", x -> x.model(i));
        }
        for (int n = 0; n <= 80; n++) {
            int c = n;
            question("told(" + c + ", 0)", x -> x.told(c, 0));
            question("told(" + c + ", 1)", x -> x.told(c, 1));
            question("told(" + c + ", 2)", x -> x.told(c, 2));
            question("can(" + c + ")", x -> x.can(c));
            question("below(0, " + c + ")", x -> x.below(0, c));
            question("surely(" + c % 5 + ", " + c + ")", x -> x.surely(c % 5, c));
        }
        for (int n = 0; n <= 1024; n++) {
            int type = n;
            question("depth(" + type + ")", x -> x.depth(type));
        }
    }

    private void listChanges() {
        for (int n = 0; n < 10; n++) {
            int k = n;
            change("class0(" + k + ")", x -> x.class0(k));
        }
        for (int n = 3; n <= 7; n++) {
            int kind = n;
            change("concept(" + kind + ", 1, 0)", x -> x.concept(kind, 1, 0));
            change("concept(" + kind + ", 0, 1)", x -> x.concept(kind, 0, 1));
        }
        for (int n = 0; n < 16; n++) {
            int r = n / 4;
            int s = n % 4;
            change("role(" + r + ", " + s + ")", x -> x.role(r, s));
        }
        change("axiom(0, 0)", x -> x.axiom(0, 0));
        change("drop()", x -> x.drop());
        change("types() after drop()", x -> x.drop() + 100 * x.types());
        change("individual(4, 0)", x -> x.individual(4, 0));
        change("has(4, 3, 4)", x -> x.has(4, 3, 4));
        change("forget()", x -> x.forget());
        change("individual(4, 0) after forget()", x -> x.forget() + 100 * x.individual(4, 0));
        change("has(4, 3, 4) after forget()", x -> x.forget() + 100 * x.has(4, 3, 4));
    }
}
