import java.lang.reflect.Field;
import java.lang.reflect.Method;
import java.lang.reflect.Modifier;
import java.util.Arrays;
import java.util.Set;
import java.util.TreeSet;

/** The public face, and promise 1. */
public final class FaceTest {
    private static final Check check = new Check();

    public static void main(String[] args) {
        constants();
        methods();
        newObject();
        newLayout();
        check.end();
    }

    private static void constants() {
        check.due("OK", LinkYard.OK, 0);
        check.due("FAULTY", LinkYard.FAULTY, 1);
        check.due("DUPLICATE", LinkYard.DUPLICATE, 2);
        check.due("UNDEFINED", LinkYard.UNDEFINED, 3);
        check.due("LARGE", LinkYard.LARGE, 4);
        check.due("DONE", LinkYard.DONE, 5);
        check.due("LIMIT", LinkYard.LIMIT, 6);
        check.due("WILD", LinkYard.WILD, 7);
        check.due("ILLEGAL", LinkYard.ILLEGAL, 8);
        check.due("NOTHING", LinkYard.NOTHING, -1);
        int seen = 0;
        for (Field field : LinkYard.class.getDeclaredFields()) {
            if (!Modifier.isPrivate(field.getModifiers())) {
                seen++;
            }
        }
        check.due("fields that are not private", seen, 10);
        int held = 0;
        for (Field field : LinkYard.class.getDeclaredFields()) {
            held += Modifier.isStatic(field.getModifiers()) ? 0 : 1;
        }
        check.due("some forty fields at most", held <= 40, true);
        check.due("constructors", LinkYard.class.getDeclaredConstructors().length, 1);
        check.due("a public constructor", LinkYard.class.getConstructors().length, 1);
    }

    private static void methods() {
        Set<String> face = new TreeSet<>();
        for (Method method : LinkYard.class.getDeclaredMethods()) {
            if (!Modifier.isPrivate(method.getModifiers())) {
                String modifiers = Modifier.toString(method.getModifiers());
                face.add(modifiers + " " + method.getReturnType() + " " + method.getName() + Arrays.toString(method.getParameterTypes()));
            }
        }
        Set<String> wanted = new TreeSet<>(Set.of("public int item[int, int, int, int]", "public int clear[int]", "public boolean role[int, int]",
            "public boolean layout[int, boolean]", "public int link[]", "public int culprit[]", "public int listed[int]", "public int address[int]",
            "public int where[int, int]", "public int word[int]", "public int size[int]", "public int run[]", "public int state[int]",
            "public int memory[int]"));
        check.due("the methods are " + face, face.equals(wanted), true);
        check.due("the class is public and final", LinkYard.class.getModifiers(), Modifier.PUBLIC | Modifier.FINAL);
    }

    private static void newObject() {
        LinkYard yard = new LinkYard();
        check.due("culprit()", yard.culprit(), -1);
        check.due("run()", yard.run(), LinkYard.NOTHING);
        for (int k = -1; k < 60; k++) {
            check.due("listed(" + k + ")", yard.listed(k), -1);
            check.due("address(" + k + ")", yard.address(k), -1);
            check.due("where(0, " + k + ")", yard.where(0, k), -1);
            check.due("word(" + k + ")", yard.word(k), -1);
            check.due("size(" + k + ")", yard.size(k), -1);
            check.due("state(" + k + ")", yard.state(k), 0);
            check.due("memory(" + k + ")", yard.memory(k), 0);
        }
        LinkYard other = new LinkYard();
        for (int module = 0; module < 6; module++) {
            check.due("clear(" + module + ")", other.clear(module), 0);
        }
        check.due("link() of nothing", other.link(), LinkYard.UNDEFINED);
        check.due("culprit()", other.culprit(), 0);
    }

    private static void newLayout() {
        LinkYard yard = new LinkYard();
        Op.put(yard, 0, Op.LABEL, 0, Op.GLOBAL, Op.HALT, 0, 0, Op.SECTION, Op.DATA, 0, Op.WORD, 0, 9);
        check.due("link() while all are unused", yard.link(), LinkYard.UNDEFINED);
        yard.role(0, Op.TAKEN);
        check.due("link()", yard.link(), LinkYard.OK);
        check.due("address(0), origin 0", yard.address(0), 0);
        check.due("word(1), nothing stripped", yard.word(1), 9);
    }
}
