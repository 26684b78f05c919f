import java.io.IOException;
import java.nio.file.Files;
import java.nio.file.Path;
import java.util.ArrayDeque;
import java.util.Deque;
import java.util.HashMap;
import java.util.Map;
import java.util.Set;
import java.util.TreeSet;
import java.util.regex.Matcher;
import java.util.regex.Pattern;

/** Rules of LANGUAGE.md that can be seen from the text of the program; run from the project's folder. */
public final class LanguageTest {
    private static final Set<String> LEFT_OUT = Set.of("import", "package", "float", "double", "String", "Math", "Integer", "System",
        "Arrays", "Object", "null", "throw", "throws", "try", "catch", "synchronized", "assert", "instanceof", "enum", "interface",
        "record", "protected", "extends", "implements");
    private static final Set<String> NOT_CALLS = Set.of("if", "for", "while", "switch", "return");
    private static final Check check = new Check();

    public static void main(String[] args) throws IOException {
        String text = Files.readString(Path.of("src/main/java/LinkYard.java"));
        String code = text.replaceAll("(?s)/\\*.*?\\*/", " ").replaceAll("//[^\n]*", " ");
        words(code);
        arrays(code);
        arraysStay(code);
        loops(code);
        callsInArguments(code);
        depth(bodies(code));
        check.end();
    }

    private static void words(String code) {
        Matcher word = Pattern.compile("[A-Za-z_]\\w*").matcher(code);
        while (word.find()) {
            check.due("the word " + word.group() + " is left out", LEFT_OUT.contains(word.group()), false);
        }
        check.due("a lambda or method reference", code.contains("->") || code.contains("::"), false);
        check.due("a text or a character", code.contains("\"") || code.contains("'"), false);
        check.due("classes", code.split("\\bclass\\b", -1).length - 1, 1);
    }

    private static void arrays(String code) {
        for (String line : code.split("\n")) {
            if (line.contains("new ")) {
                boolean field = line.matches("    private final (int|boolean)\\[\\] \\w+ = new \\1\\[[A-Z_]+\\];");
                check.due("an array is made by a field alone: " + line.trim(), field, true);
            }
            if (line.contains(" static ") && line.contains("=") && line.endsWith(";")) {
                check.due("a static field is a constant: " + line.trim(), line.contains("static final int"), true);
            }
        }
    }

    /** An array is named only where it is made, and to look at one of its places. */
    private static void arraysStay(String code) {
        Matcher field = Pattern.compile("\\[\\] (\\w+) = new ").matcher(code);
        int arrays = 0;
        while (field.find()) {
            arrays++;
            String rest = code.substring(0, field.start(1)) + code.substring(field.end(1));
            boolean alone = Pattern.compile("\\b" + field.group(1) + "\\b(?!\\[)").matcher(rest).find();
            check.due("the array " + field.group(1) + " is named without a place", alone, false);
        }
        check.due("all types of arrays are those of fields", code.split("\\[\\]", -1).length - 1, arrays);
    }

    /** A loop counts up to a bound that stands in its head, and its counter changes there alone. */
    private static void loops(String code) {
        Matcher loop = Pattern.compile("\\b(for|while|do)\\b([^\n]*)").matcher(code);
        while (loop.find()) {
            boolean counts = loop.group(2).matches(" \\(int (\\w+) = \\w+; \\1 <=? [\\w\\[\\]]+; \\1\\+\\+\\) \\{");
            check.due("a counter against a bound: " + loop.group(), counts, true);
        }
        Matcher body = Pattern.compile("(?m)^( +)for \\(int (\\w+) = .*\n((?s:.*?))^\\1\\}").matcher(code);
        for (int from = 0; body.find(from); from = body.start(3)) {
            String counter = body.group(2);
            boolean changed = Pattern.compile("\\b" + counter + " ?([-+*/|&^]?=[^=]|\\+\\+|--)").matcher(body.group(3)).find();
            check.due("the counter " + counter + " changes inside its loop", changed, false);
        }
    }

    private static void callsInArguments(String code) {
        Deque<Boolean> open = new ArrayDeque<>();
        Matcher token = Pattern.compile("(\\w+)?\\s*\\(|\\)").matcher(code);
        while (token.find()) {
            if (token.group().equals(")")) {
                open.pop();
                continue;
            }
            boolean call = token.group(1) != null && !NOT_CALLS.contains(token.group(1));
            check.due("a call of " + token.group(1) + " inside the arguments of another", call && open.contains(true), false);
            open.push(call);
        }
    }

    /** The methods with their bodies; each begins at a line that is four spaces deep. */
    private static Map<String, String> bodies(String code) {
        Map<String, String> bodies = new HashMap<>();
        Matcher method = Pattern.compile("(?m)^    (?:public|private) (?:static )?(?:int |boolean |void )?(\\w+)\\(([^)]*)\\) \\{\n((?s:.*?))^    \\}").matcher(code);
        while (method.find()) {
            String name = method.group(1);
            check.due("a second method " + name, bodies.containsKey(name), false);
            check.due("lines of " + name, method.group(3).split("\n").length <= 60, true);
            check.due("parameters of " + name, method.group(2).split(",").length <= 7, true);
            bodies.put(name, method.group(3));
        }
        return bodies;
    }

    private static Set<String> called(String body, Map<String, String> bodies) {
        Set<String> called = new TreeSet<>();
        Matcher call = Pattern.compile("(\\w+)\\(").matcher(body);
        while (call.find()) {
            if (bodies.containsKey(call.group(1))) {
                called.add(call.group(1));
            }
        }
        return called;
    }

    /** Goes from caller to called, seven times at most; a recursion would never come to an end. */
    private static void depth(Map<String, String> bodies) {
        check.due("methods were found", bodies.size() > 20, true);
        Set<String> level = new TreeSet<>(bodies.keySet());
        for (int deep = 1; deep <= 6; deep++) {
            Set<String> below = new TreeSet<>();
            for (String name : level) {
                below.addAll(called(bodies.get(name), bodies));
            }
            level = below;
        }
        check.due("calls that are more than six deep, to " + level, level.size(), 0);
    }
}
