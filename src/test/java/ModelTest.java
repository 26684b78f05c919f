import java.util.ArrayList;
import java.util.List;
import java.util.function.ToIntFunction;

/**
 * Fixed sequences of calls; every answer is compared with the model's. What an object tells at the end
 * is asked in parts, each of a new one to which the same calls were made, as each is used for 512 calls.
 */
public final class ModelTest {
    private static final int SEQUENCES = 12000, MOST_CHANGES = 200, MOST_CALLS = 512;
    private static final Check check = new Check();
    private static final int[] linkAnswers = new int[5];
    private static final int[] runAnswers = new int[9];
    private static int strippedAway = 0, manyRounds = 0, archived = 0;
    private static long seed;

    private final Model model = new Model();
    private final List<ToIntFunction<LinkYard>> changes = new ArrayList<>();
    private LinkYard yard = new LinkYard();
    private int calls = 0;
    private final int symbols = 2 + next(next(2) == 0 ? 5 : 15);
    private final int entryModule = next(6);
    private final boolean wild = next(4) == 0;
    private final boolean spacious = next(3) == 0;
    private final int[] labelled = new int[6];
    private String last = "";

    public static void main(String[] args) {
        for (int k = 0; k < SEQUENCES && !check.hasWrong(); k++) {
            seed = 1000003L * k + 17;
            new ModelTest().sequence(k);
        }
        covered();
        check.end();
    }

    /** A number of 0..bound-1; the same ones in each run of the test. */
    private static int next(int bound) {
        seed = seed * 6364136223846793005L + 1442695040888963407L;
        return (int) ((seed >>> 33) % bound);
    }

    /** Whether the sequences came to all that they are to test. */
    private static void covered() {
        for (int answer = 0; answer < 5; answer++) {
            check.due("link() came to " + answer, linkAnswers[answer] >= 50, true);
        }
        for (int answer = 5; answer < 9; answer++) {
            check.due("run() came to " + answer, runAnswers[answer] >= 50, true);
        }
        check.due("something was stripped", strippedAway >= 50, true);
        check.due("there were several rounds", manyRounds >= 50, true);
        check.due("the archive was used", archived >= 50, true);
    }

    /** A call that only asks. */
    private void same(String call, ToIntFunction<LinkYard> asked, int want) {
        calls++;
        check.due(last + ": " + call, asked.applyAsInt(yard), want);
        check.due(last + ": at most 512 calls", calls <= MOST_CALLS, true);
    }

    /** A call that changes something, and so is made again to the next object. */
    private void made(String call, ToIntFunction<LinkYard> change, int want) {
        same(call, change, want);
        changes.add(change);
    }

    private void beginAnother() {
        yard = new LinkYard();
        calls = changes.size();
        for (ToIntFunction<LinkYard> change : changes) {
            change.applyAsInt(yard);
        }
    }

    private void sequence(int number) {
        last = "sequence " + number;
        for (int module = 0; module < 6; module++) {
            setRole(module, module == entryModule ? Op.TAKEN : next(6) == 0 ? Op.UNUSED : 1 + next(2));
            owned(module);
            fill(module, next(spacious ? 20 : 10));
        }
        int rounds = 1 + next(4);
        for (int round = 0; round < rounds && changes.size() < MOST_CHANGES; round++) {
            change();
            linkBoth();
            if (next(3) > 0) {
                runBoth();
            }
        }
        if (next(3) == 0) {
            change();
        }
        compareLink();
        compareRun();
    }

    private void change() {
        int module = next(7) - (next(20) == 0 ? 1 : 0);
        switch (next(6)) {
            case 0 -> {
                made("clear(" + module + ")", one -> one.clear(module), model.clear(module));
                if (module >= 0 && module <= 5) {
                    labelled[module] = 0;
                    owned(module);
                }
                fill(module, next(20));
            }
            case 1 -> setRole(module, next(5) - 1);
            case 2 -> setRole(next(6), Op.TAKEN);
            case 3 -> fill(module, next(6));
            default -> {
                int origin = next(4) == 0 ? next(104) - 2 : next(40);
                boolean strip = next(2) == 0;
                made("layout(" + origin + ")", one -> one.layout(origin, strip) ? 1 : 0, model.layout(origin, strip) ? 1 : 0);
            }
        }
    }

    private void setRole(int module, int how) {
        made("role(" + module + ", " + how + ")", one -> one.role(module, how) ? 1 : 0, model.role(module, how) ? 1 : 0);
    }

    private void fill(int module, int items) {
        for (int k = 0; k < items; k++) {
            if (next(3) == 0) {
                label(module);
            }
            any(module);
        }
    }

    /** Labels of the symbols that the module is mostly the only one to define. */
    private void owned(int module) {
        for (int symbol = 0; symbol < symbols; symbol++) {
            if (owner(symbol) == module && next(30) > 0) {
                any(module);
                put(module, Op.LABEL, symbol, 1 + next(2));
                labelled[module] |= 1 << symbol;
            }
        }
    }

    private int owner(int symbol) {
        return (symbol * 5 + entryModule) % 6;
    }

    /** A label; mostly one that neither makes the module FAULTY nor the symbol DUPLICATE. */
    private void label(int module) {
        int symbol = next(symbols);
        int kind = next(60) == 0 ? Op.GLOBAL : owner(symbol) == module ? 1 + next(2) : next(2) * 2;
        boolean mayRepeat = next(150) == 0;
        if (module < 0 || module > 5 || mayRepeat || (labelled[module] & 1 << symbol) == 0) {
            put(module, Op.LABEL, symbol, kind);
        }
        if (module >= 0 && module <= 5) {
            labelled[module] |= 1 << symbol;
        }
    }

    private void any(int module) {
        int symbol = next(40) == 0 ? next(18) - 1 : next(symbols);
        int register = next(60) == 0 ? next(10) - 1 : next(8);
        switch (next(spacious ? 15 : 12)) {
            case 0 -> put(module, next(3) == 0 ? Op.HALT : Op.OUT, register, symbol);
            case 1, 2 -> put(module, Op.LI, register, next(3) == 0 ? next(600) - 300 : next(256));
            case 3 -> put(module, Op.LI, register, anyWord());
            case 4 -> put(module, Op.ADD + next(6), register, next(8));
            case 5, 6 -> put(module, Op.JUMP + next(3), register, symbol);
            case 7 -> put(module, Op.LA, register, symbol);
            case 8 -> put(module, next(3) == 0 ? Op.OUT : Op.RET + next(4), register, symbol);
            case 9 -> put(module, next(2) == 0 ? Op.WORD : Op.ADDRESS, symbol, next(140) - 70);
            case 10 -> put(module, wild ? Op.WORD : Op.SECTION, next(2), anyWord());
            case 11 -> put(module, Op.SPACE + next(3), next(spacious ? 17 : 5), 0);
            default -> put(module, Op.SPACE, 4 + next(13), 0);
        }
    }

    /** A word that is like an instruction more often than not. */
    private static int anyWord() {
        int bits = next(1 << 16) << 16 | next(1 << 16);
        return next(4) == 0 ? bits : next(16) << 24 | next(8) << 20 | next(2) << 16 | next(40);
    }

    private void put(int module, int op, int a, int b) {
        made("item(" + module + ", " + op + ", " + a + ", " + b + ")", one -> one.item(module, op, a, b), model.item(module, op, a, b));
    }

    private void linkBoth() {
        int answer = model.link();
        linkAnswers[answer]++;
        made("link()", LinkYard::link, answer);
        if (answer == LinkYard.OK) {
            count();
        }
    }

    private void count() {
        manyRounds += model.size(3) > 1 ? 1 : 0;
        archived += model.listed(1) >= 0 && model.listed(0) > model.listed(1) ? 1 : 0;
        strippedAway += model.where(model.listed(0), 0) < 0 ? 1 : 0;
    }

    private void runBoth() {
        int answer = model.run();
        if (answer >= 0) {
            runAnswers[answer]++;
        }
        made("run()", LinkYard::run, answer);
    }

    private void compareLink() {
        beginAnother();
        same("culprit()", LinkYard::culprit, model.culprit());
        for (int k = -1; k < 8; k++) {
            int number = k;
            same("listed(" + k + ")", one -> one.listed(number), model.listed(k));
            same("size(" + k + ")", one -> one.size(number), model.size(k));
        }
        for (int k = -1; k < 17; k++) {
            int symbol = k;
            same("address(" + k + ")", one -> one.address(symbol), model.address(k));
        }
        for (int at = 0; at < 6 * 25; at++) {
            int module = at / 25;
            int k = at % 25;
            same("where(" + module + ", " + k + ")", one -> one.where(module, k), model.where(module, k));
        }
        beginAnother();
        for (int at = 0; at < 256; at++) {
            int address = at;
            same("word(" + at + ")", one -> one.word(address), model.word(at));
        }
    }

    private void compareRun() {
        beginAnother();
        for (int k = -1; k < 60; k++) {
            int what = k;
            same("state(" + k + ")", one -> one.state(what), model.state(k));
        }
        beginAnother();
        for (int at = 0; at < 256; at++) {
            int address = at;
            same("memory(" + at + ")", one -> one.memory(address), model.memory(at));
        }
    }
}
