import java.lang.reflect.Constructor;
import java.lang.reflect.Field;
import java.lang.reflect.Method;
import java.lang.reflect.Modifier;
import java.nio.file.Files;
import java.nio.file.Path;
import java.util.Arrays;
import java.util.List;
import java.util.TreeSet;
import java.util.regex.Matcher;
import java.util.regex.Pattern;

/** Those rules of LANGUAGE.md that can be told from the class and from its text. */
public final class SourceRules {
    private static final List<String> FACE = List.of(
            "BAD", "NO", "FULL", "TableauNodes()", "class0(int)", "concept(int,int,int)",
            "told(int,int)", "concepts()", "atoms()", "axiom(int,int)", "drop()", "role(int,int)",
            "can(int)", "below(int,int)", "types()", "rounds()", "depth(int)",
            "individual(int,int)", "has(int,int,int)", "forget()", "run()", "model(int)",
            "surely(int,int)");

    private static int wrong = 0;

    public static void main(String[] args) throws Exception {
        checkFace();
        checkNested();
        String text = Files.readString(Path.of("src/main/java/TableauNodes.java"));
        checkText(text);
        checkMethodLengths(text);
        System.out.println(wrong == 0 ? "all rules are kept" : wrong + " rules are broken");
        if (wrong != 0) {
            System.exit(1);
        }
    }

    private static void tell(String what) {
        wrong++;
        System.out.println(what);
    }

    private static void checkFace() {
        Class<?> face = TableauNodes.class;
        TreeSet<String> seen = new TreeSet<>();
        TreeSet<String> publicNames = new TreeSet<>();
        for (Field f : face.getDeclaredFields()) {
            if (!Modifier.isPrivate(f.getModifiers())) {
                seen.add(f.getName());
            }
            checkStatic(f);
        }
        for (Constructor<?> c : face.getDeclaredConstructors()) {
            seen.add("TableauNodes" + parameters(c.getParameterTypes()));
        }
        for (Method m : face.getDeclaredMethods()) {
            if (!Modifier.isPrivate(m.getModifiers())) {
                seen.add(m.getName() + parameters(m.getParameterTypes()));
                publicNames.add(m.getName());
                if (m.getReturnType() != int.class || !Modifier.isPublic(m.getModifiers())) {
                    tell("no public int: " + m);
                }
            }
        }
        for (Method m : face.getDeclaredMethods()) {
            if (Modifier.isPrivate(m.getModifiers()) && publicNames.contains(m.getName())) {
                tell("a private method with a public one's name: " + m);
            }
        }
        if (!seen.equals(new TreeSet<>(FACE))) {
            tell("the face is " + seen);
        }
        if (!Modifier.isFinal(face.getModifiers()) || !Modifier.isPublic(face.getModifiers())) {
            tell("the class is not public and final");
        }
    }

    private static String parameters(Class<?>[] types) {
        StringBuilder sb = new StringBuilder("(");
        for (Class<?> type : types) {
            sb.append(sb.length() > 1 ? "," : "").append(type.getName());
        }
        return sb.append(')').toString();
    }

    private static void checkNested() {
        Class<?>[] nested = TableauNodes.class.getDeclaredClasses();
        if (nested.length > 11) {
            tell("too many classes: " + nested.length);
        }
        for (Class<?> c : nested) {
            if (!Modifier.isStatic(c.getModifiers()) || Modifier.isPublic(c.getModifiers())) {
                tell("not static, or public: " + c);
            }
            int fields = 0;
            for (Field f : c.getDeclaredFields()) {
                checkStatic(f);
                fields += Modifier.isStatic(f.getModifiers()) ? 0 : 1;
            }
            if (fields > 20) {
                tell("too many fields: " + c);
            }
            for (Method m : c.getDeclaredMethods()) {
                if (m.getParameterCount() > 7) {
                    tell("too many parameters: " + m);
                }
            }
        }
    }

    private static void checkStatic(Field f) {
        if (Modifier.isStatic(f.getModifiers()) && !Modifier.isFinal(f.getModifiers())) {
            tell("static and not final: " + f);
        }
    }

    private static void checkText(String text) {
        String code = text.replaceAll("(?s)/\\*.*?\\*/", "").replaceAll("//.*", "");
        for (String word : Arrays.asList("throw", "throws", "try", "catch", "synchronized", "assert",
                "import", "package", "protected", "native", "volatile", "Object", "System\\.out",
                "float", "double", "hashCode", "toString")) {
            if (Pattern.compile("\\b" + word + "\\b").matcher(code).find()) {
                tell("the text has the word " + word);
            }
        }
        for (String sign : List.of("->", "::", "Exact(", "while (true)", "for (;;)", "static {")) {
            if (code.contains(sign)) {
                tell("the text has " + sign);
            }
        }
        if (Pattern.compile("[^\\x00-\\x7f]").matcher(text).find()) {
            tell("the text has a character past 127");
        }
        Matcher library = Pattern.compile("\\b([A-Z]\\w*)\\.(\\w+)\\(").matcher(code);
        List<String> known = List.of("Long.bitCount", "Integer.bitCount", "Math.min", "System.arraycopy");
        while (library.find()) {
            if (!known.contains(library.group(1) + "." + library.group(2))) {
                tell("the text calls " + library.group());
            }
        }
    }

    /** A method ends at the first line that closes it at the depth at which it began. */
    private static void checkMethodLengths(String text) {
        String[] lines = text.split("\n");
        Pattern head = Pattern.compile("^( {4}| {8})(?=\\S)[\\w<>\\[\\] ]+\\(.*\\) \\{$");
        for (int n = 0; n < lines.length; n++) {
            Matcher m = head.matcher(lines[n]);
            if (!m.matches()) {
                continue;
            }
            int end = n;
            while (!lines[end].equals(m.group(1) + "}")) {
                end++;
            }
            if (end - n > 60) {
                tell("a long method: " + lines[n].trim());
            }
        }
    }
}
