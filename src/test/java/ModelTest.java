/** Long fixed sequences of calls; every answer is compared with the model's. */
public final class ModelTest {
    private static final int SEQUENCES = 3000;
    private static final Check check = new Check();
    private static final int[] linkAnswers = new int[5];
    private static final int[] runAnswers = new int[9];
    private static int strippedAway = 0, manyRounds = 0, archived = 0;
    private static long seed;

    private LinkYard yard = new LinkYard();
    private Model model = new Model();
    private final int symbols = 2 + next(next(2) == 0 ? 5 : 15);
    private final int entryModule = next(6);
    private final boolean wild = next(4) == 0;
    private final boolean spacious = next(3) == 0;
    private final int[] labelled = new int[6];
    private String last = "";

    public static void main(String[] args) {
        for (int k = 0; k < SEQUENCES && !check.hasWrong(); k++) {
            seed = 1000003L * k + 17;
            new ModelTest().sequence(k);
        }
        covered();
        check.end();
    }

    /** A number of 0..bound-1; the same ones in each run of the test. */
    private static int next(int bound) {
        seed = seed * 6364136223846793005L + 1442695040888963407L;
        return (int) ((seed >>> 33) % bound);
    }

    /** Whether the sequences came to all that they are to test. */
    private static void covered() {
        for (int answer = 0; answer < 5; answer++) {
            check.due("link() came to " + answer, linkAnswers[answer] >= 50, true);
        }
        for (int answer = 5; answer < 9; answer++) {
            check.due("run() came to " + answer, runAnswers[answer] >= 50, true);
        }
        check.due("something was stripped", strippedAway >= 50, true);
        check.due("there were several rounds", manyRounds >= 50, true);
        check.due("the archive was used", archived >= 50, true);
    }

    private void same(String call, int got, int want) {
        check.due(last + ": " + call, got, want);
    }

    private void sequence(int number) {
        for (int module = 0; module < 6; module++) {
            setRole(module, module == entryModule ? Op.TAKEN : next(6) == 0 ? Op.UNUSED : 1 + next(2));
            owned(module);
            fill(module, next(spacious ? 20 : 10));
        }
        for (int round = 0; round < 6; round++) {
            last = "sequence " + number + " round " + round;
            change();
            linkBoth();
            if (next(3) == 0) {
                change();
                compareLink();
            }
            runBoth();
        }
    }

    private void change() {
        int module = next(7) - (next(20) == 0 ? 1 : 0);
        switch (next(6)) {
            case 0 -> {
                same("clear(" + module + ")", yard.clear(module), model.clear(module));
                if (module >= 0 && module <= 5) {
                    labelled[module] = 0;
                    owned(module);
                }
                fill(module, next(20));
            }
            case 1 -> setRole(module, next(5) - 1);
            case 2 -> setRole(next(6), Op.TAKEN);
            case 3 -> fill(module, next(6));
            default -> {
                int origin = next(4) == 0 ? next(104) - 2 : next(40);
                boolean strip = next(2) == 0;
                same("layout(" + origin + ")", yard.layout(origin, strip) ? 1 : 0, model.layout(origin, strip) ? 1 : 0);
            }
        }
    }

    private void setRole(int module, int how) {
        same("role(" + module + ", " + how + ")", yard.role(module, how) ? 1 : 0, model.role(module, how) ? 1 : 0);
    }

    private void fill(int module, int items) {
        for (int k = 0; k < items; k++) {
            if (next(3) == 0) {
                label(module);
            }
            any(module);
        }
    }

    /** Labels of the symbols that the module is mostly the only one to define. */
    private void owned(int module) {
        for (int symbol = 0; symbol < symbols; symbol++) {
            if (owner(symbol) == module && next(30) > 0) {
                any(module);
                put(module, Op.LABEL, symbol, 1 + next(2));
                labelled[module] |= 1 << symbol;
            }
        }
    }

    private int owner(int symbol) {
        return (symbol * 5 + entryModule) % 6;
    }

    /** A label; mostly one that neither makes the module FAULTY nor the symbol DUPLICATE. */
    private void label(int module) {
        int symbol = next(symbols);
        int kind = next(60) == 0 ? Op.GLOBAL : owner(symbol) == module ? 1 + next(2) : next(2) * 2;
        boolean mayRepeat = next(150) == 0;
        if (module < 0 || module > 5 || mayRepeat || (labelled[module] & 1 << symbol) == 0) {
            put(module, Op.LABEL, symbol, kind);
        }
        if (module >= 0 && module <= 5) {
            labelled[module] |= 1 << symbol;
        }
    }

    private void any(int module) {
        int symbol = next(40) == 0 ? next(18) - 1 : next(symbols);
        int register = next(60) == 0 ? next(10) - 1 : next(8);
        switch (next(spacious ? 15 : 12)) {
            case 0 -> put(module, next(3) == 0 ? Op.HALT : Op.OUT, register, symbol);
            case 1, 2 -> put(module, Op.LI, register, next(3) == 0 ? next(600) - 300 : next(256));
            case 3 -> put(module, Op.LI, register, anyWord());
            case 4 -> put(module, Op.ADD + next(6), register, next(8));
            case 5, 6 -> put(module, Op.JUMP + next(3), register, symbol);
            case 7 -> put(module, Op.LA, register, symbol);
            case 8 -> put(module, next(3) == 0 ? Op.OUT : Op.RET + next(4), register, symbol);
            case 9 -> put(module, next(2) == 0 ? Op.WORD : Op.ADDRESS, symbol, next(140) - 70);
            case 10 -> put(module, wild ? Op.WORD : Op.SECTION, next(2), anyWord());
            case 11 -> put(module, Op.SPACE + next(3), next(spacious ? 17 : 5), 0);
            default -> put(module, Op.SPACE, 4 + next(13), 0);
        }
    }

    /** A word that is like an instruction more often than not. */
    private static int anyWord() {
        int bits = next(1 << 16) << 16 | next(1 << 16);
        return next(4) == 0 ? bits : next(16) << 24 | next(8) << 20 | next(2) << 16 | next(40);
    }

    private void put(int module, int op, int a, int b) {
        same("item(" + module + ", " + op + ", " + a + ", " + b + ")", yard.item(module, op, a, b), model.item(module, op, a, b));
    }

    private void linkBoth() {
        int answer = model.link();
        linkAnswers[answer]++;
        same("link()", yard.link(), answer);
        compareLink();
        compareRun();
        if (answer == LinkYard.OK) {
            count();
        }
    }

    private void count() {
        manyRounds += model.size(3) > 1 ? 1 : 0;
        archived += model.listed(1) >= 0 && model.listed(0) > model.listed(1) ? 1 : 0;
        strippedAway += model.where(model.listed(0), 0) < 0 ? 1 : 0;
    }

    private void runBoth() {
        int answer = model.run();
        if (answer >= 0) {
            runAnswers[answer]++;
        }
        same("run()", yard.run(), answer);
        compareRun();
    }

    private void compareLink() {
        same("culprit()", yard.culprit(), model.culprit());
        for (int k = -1; k < 8; k++) {
            same("listed(" + k + ")", yard.listed(k), model.listed(k));
            same("size(" + k + ")", yard.size(k), model.size(k));
        }
        for (int symbol = -1; symbol < 17; symbol++) {
            same("address(" + symbol + ")", yard.address(symbol), model.address(symbol));
        }
        for (int module = -1; module < 7; module++) {
            for (int k = -1; k < 26; k++) {
                same("where(" + module + ", " + k + ")", yard.where(module, k), model.where(module, k));
            }
        }
        for (int at = -1; at < 258; at++) {
            same("word(" + at + ")", yard.word(at), model.word(at));
        }
    }

    private void compareRun() {
        for (int what = -1; what < 60; what++) {
            same("state(" + what + ")", yard.state(what), model.state(what));
        }
        for (int at = -1; at < 258; at++) {
            same("memory(" + at + ")", yard.memory(at), model.memory(at));
        }
    }
}
