import java.io.IOException;
import java.lang.reflect.Method;
import java.nio.file.Files;
import java.nio.file.Path;
import java.util.ArrayList;
import java.util.List;
import java.util.Set;
import java.util.TreeSet;
import java.util.regex.Matcher;
import java.util.regex.Pattern;

/** The calls that README.md shows answer what stands behind them there; run from the project's folder. */
public final class ReadmeTest {
    private static final Pattern CALL = Pattern.compile("yard\\.(\\w+)\\(([^)]*)\\);\\s*// (-?\\w+): .*");
    private static final Check check = new Check();

    public static void main(String[] args) throws IOException, ReflectiveOperationException {
        LinkYard yard = new LinkYard();
        Set<String> shown = new TreeSet<>();
        for (String line : Files.readAllLines(Path.of("README.md"))) {
            if (line.startsWith("yard.")) {
                Matcher call = CALL.matcher(line);
                check.due("a call with its answer: " + line, call.matches(), true);
                if (call.matches()) {
                    String got = answer(yard, call.group(1), call.group(2));
                    check.due(line + " (answered " + got + ")", got.equals(call.group(3)), true);
                    shown.add(call.group(1));
                }
            }
        }
        check.due("the calls that are shown, " + shown, shown.size() >= 12, true);
        check.end();
    }

    private static String answer(LinkYard yard, String name, String operands) throws ReflectiveOperationException {
        for (Method method : LinkYard.class.getMethods()) {
            if (method.getName().equals(name)) {
                return String.valueOf(method.invoke(yard, values(operands)));
            }
        }
        return "no such method";
    }

    private static Object[] values(String operands) {
        List<Object> values = new ArrayList<>();
        for (String operand : operands.split(", ")) {
            if (operand.equals("true") || operand.equals("false")) {
                values.add(Boolean.valueOf(operand));
            } else if (!operand.isEmpty()) {
                values.add(Integer.valueOf(operand));
            }
        }
        return values.toArray();
    }
}
