/**
 * A little tool chain: modules are put together from items, linked, and what comes out is run.
 * Item k of module m lies at index m * ITEMS + k of every array over items.
 */
public final class LinkYard {
    public static final int OK = 0, FAULTY = 1, DUPLICATE = 2, UNDEFINED = 3, LARGE = 4, DONE = 5, LIMIT = 6, WILD = 7, ILLEGAL = 8, NOTHING = -1;

    private static final int OP_LABEL = 0, OP_LI = 1, OP_ADD = 2, OP_SUB = 3, OP_MUL = 4, OP_LESS = 5, OP_LOAD = 6, OP_STORE = 7, OP_JUMP = 8, OP_JZ = 9;
    private static final int OP_CALL = 10, OP_RET = 11, OP_LA = 12, OP_OUT = 13, OP_HALT = 14;
    private static final int OP_WORD = 15, OP_ADDRESS = 16, OP_SPACE = 17, OP_ALIGN = 18, OP_SECTION = 19;

    private static final int MODULES = 6, ITEMS = 24, ALL_ITEMS = MODULES * ITEMS, UNITS = MODULES * 2;
    private static final int SYMBOLS = 16, REGISTERS = 8, LINK_REGISTER = 7, WORDS = 256, STEPS = 300, OUTPUTS = 40, LAST_ORIGIN = 100;
    private static final int LOCAL = 0, GLOBAL = 1, WEAK = 2;
    private static final int UNUSED = 0, TAKEN = 1, ARCHIVE = 2;
    private static final int TEXT = 0, DATA = 1;
    private static final int LONG_BIT = 1 << 16, LOW_BITS = 0xFFFF;
    private static final int NONE = -1, GOING = 0;

    // The modules as they are being put together.
    private final int[] ops = new int[ALL_ITEMS];
    private final int[] firsts = new int[ALL_ITEMS];
    private final int[] seconds = new int[ALL_ITEMS];
    private final int[] counts = new int[MODULES];
    private final int[] roles = new int[MODULES];
    private int base = 0;
    private boolean stripping = false;

    // What a link finds of each module; sets of symbols are bit masks.
    private final int[] localSets = new int[MODULES];
    private final int[] globalSets = new int[MODULES];
    private final int[] weakSets = new int[MODULES];
    private final int[] outsideUses = new int[MODULES];
    private final boolean[] repeats = new boolean[MODULES];
    private final int[] unitOf = new int[ALL_ITEMS];
    private final int[] targets = new int[ALL_ITEMS];
    private final boolean[] stays = new boolean[UNITS];
    private final boolean[] madeLong = new boolean[ALL_ITEMS];

    // What the latest link answers with: none of it is touched by later changes to the modules.
    private final int[] list = new int[MODULES];
    private int listLength = 0;
    private final int[] chosen = new int[SYMBOLS];
    private final int[] places = new int[ALL_ITEMS];
    private final int[] image = new int[WORDS];
    private int textEnd = 0;
    private int allEnd = 0;
    private int longCount = 0;
    private int longRounds = 0;
    private boolean linked = false;
    private int blamed = NONE;

    // The latest run.
    private final int[] registers = new int[REGISTERS];
    private final int[] store = new int[WORDS];
    private final int[] output = new int[OUTPUTS];
    private int outs = 0;
    private int pc = 0;
    private int steps = 0;
    private boolean ran = false;

    public LinkYard() {
    }

    public int item(int module, int op, int a, int b) {
        if (!isModule(module) || !operandsFit(op, a, b) || counts[module] >= ITEMS) {
            return -1;
        }
        int k = counts[module];
        int i = module * ITEMS + k;
        ops[i] = op;
        firsts[i] = a;
        seconds[i] = b;
        counts[module] = k + 1;
        return k;
    }

    public int clear(int module) {
        if (!isModule(module)) {
            return -1;
        }
        int had = counts[module];
        counts[module] = 0;
        return had;
    }

    public boolean role(int module, int how) {
        if (!isModule(module) || how < UNUSED || how > ARCHIVE) {
            return false;
        }
        roles[module] = how;
        return true;
    }

    public boolean layout(int origin, boolean strip) {
        if (origin < 0 || origin > LAST_ORIGIN) {
            return false;
        }
        base = origin;
        stripping = strip;
        return true;
    }

    public int link() {
        forgetLink();
        surveyModules();
        int fault = listModules();
        if (fault == OK) {
            fault = checkSymbols();
        }
        if (fault == OK) {
            chooseLabels();
            findTargets();
            keepUnits();
            fault = relax();
        }
        if (fault == OK) {
            fillImage();
            linked = true;
        }
        return fault;
    }

    public int culprit() {
        return blamed;
    }

    public int listed(int k) {
        if (!linked || k < 0 || k >= listLength) {
            return -1;
        }
        return list[k];
    }

    public int address(int symbol) {
        if (!linked || !isSymbol(symbol) || chosen[symbol] == NONE) {
            return -1;
        }
        return places[chosen[symbol]];
    }

    public int where(int module, int k) {
        if (!linked || !isModule(module) || k < 0 || k >= ITEMS) {
            return -1;
        }
        return places[module * ITEMS + k];
    }

    public int word(int address) {
        if (!linked || !isAddress(address)) {
            return -1;
        }
        return image[address];
    }

    public int size(int what) {
        if (!linked) {
            return -1;
        }
        switch (what) {
            case 0: return textEnd;
            case 1: return allEnd;
            case 2: return longCount;
            case 3: return longRounds;
            default: return -1;
        }
    }

    public int run() {
        if (!linked) {
            return NOTHING;
        }
        beginRun();
        for (int k = 0; k < STEPS; k++) {
            int end = step();
            if (end != GOING) {
                return end;
            }
        }
        return LIMIT;
    }

    public int state(int what) {
        if (!ran || what < 0 || what >= 11 + OUTPUTS) {
            return 0;
        }
        if (what < REGISTERS) {
            return registers[what];
        }
        switch (what) {
            case 8: return pc;
            case 9: return steps;
            case 10: return outs;
            default: return output[what - 11];
        }
    }

    public int memory(int address) {
        if (!ran || !isAddress(address)) {
            return 0;
        }
        return store[address];
    }

    private static boolean isModule(int module) {
        return module >= 0 && module < MODULES;
    }

    private static boolean isSymbol(int symbol) {
        return symbol >= 0 && symbol < SYMBOLS;
    }

    private static boolean isRegister(int register) {
        return register >= 0 && register < REGISTERS;
    }

    private static boolean isAddress(int address) {
        return address >= 0 && address < WORDS;
    }

    private static boolean operandsFit(int op, int a, int b) {
        switch (op) {
            case OP_LABEL:
                return isSymbol(a) && b >= LOCAL && b <= WEAK;
            case OP_LI:
            case OP_OUT:
                return isRegister(a);
            case OP_ADD:
            case OP_SUB:
            case OP_MUL:
            case OP_LESS:
            case OP_LOAD:
            case OP_STORE:
                return isRegister(a) && isRegister(b);
            case OP_JUMP:
            case OP_CALL:
                return isSymbol(b);
            case OP_JZ:
            case OP_LA:
                return isRegister(a) && isSymbol(b);
            case OP_RET:
            case OP_HALT:
            case OP_WORD:
                return true;
            case OP_ADDRESS:
                return isSymbol(a) && b >= -64 && b <= 64;
            case OP_SPACE:
                return a >= 0 && a <= 16;
            case OP_ALIGN:
                return a >= 2 && a <= 8;
            case OP_SECTION:
                return a == TEXT || a == DATA;
            default:
                return false;
        }
    }

    private void forgetLink() {
        linked = false;
        ran = false;
        blamed = NONE;
        listLength = 0;
        longCount = 0;
        longRounds = 0;
        for (int i = 0; i < ALL_ITEMS; i++) {
            places[i] = NONE;
            targets[i] = NONE;
            madeLong[i] = false;
        }
        for (int unit = 0; unit < UNITS; unit++) {
            stays[unit] = false;
        }
    }

    private void surveyModules() {
        for (int module = 0; module < MODULES; module++) {
            surveyLabels(module);
            surveyItems(module);
        }
    }

    private void surveyLabels(int module) {
        localSets[module] = 0;
        globalSets[module] = 0;
        weakSets[module] = 0;
        repeats[module] = false;
        int seen = 0;
        for (int k = 0; k < counts[module]; k++) {
            int i = module * ITEMS + k;
            if (ops[i] == OP_LABEL) {
                int bit = 1 << firsts[i];
                if ((seen & bit) != 0) {
                    repeats[module] = true;
                }
                seen |= bit;
                if (seconds[i] == LOCAL) {
                    localSets[module] |= bit;
                } else if (seconds[i] == GLOBAL) {
                    globalSets[module] |= bit;
                } else {
                    weakSets[module] |= bit;
                }
            }
        }
    }

    private void surveyItems(int module) {
        int used = 0;
        int section = TEXT;
        for (int k = 0; k < counts[module]; k++) {
            int i = module * ITEMS + k;
            if (ops[i] == OP_SECTION) {
                section = firsts[i];
            }
            unitOf[i] = module * 2 + section;
            int symbol = usedSymbol(i);
            if (symbol != NONE) {
                used |= 1 << symbol;
            }
        }
        outsideUses[module] = used & ~localSets[module];
    }

    private int usedSymbol(int i) {
        switch (ops[i]) {
            case OP_JUMP:
            case OP_JZ:
            case OP_CALL:
            case OP_LA:
                return seconds[i];
            case OP_ADDRESS:
                return firsts[i];
            default:
                return NONE;
        }
    }

    private int listModules() {
        for (int module = 0; module < MODULES; module++) {
            if (roles[module] == TAKEN && !addToList(module)) {
                return FAULTY;
            }
        }
        // Each module that comes in defines a symbol that none of the list did, so none comes twice.
        for (int k = 0; k < MODULES; k++) {
            int module = nextFromArchive();
            if (module == NONE) {
                return OK;
            }
            if (!addToList(module)) {
                return FAULTY;
            }
        }
        return OK;
    }

    private boolean addToList(int module) {
        if (repeats[module]) {
            blamed = module;
            return false;
        }
        if (listLength < MODULES) {
            list[listLength] = module;
            listLength++;
        }
        return true;
    }

    private int nextFromArchive() {
        int missing = wantedSymbols() & ~definedSymbols();
        for (int symbol = 0; symbol < SYMBOLS; symbol++) {
            int bit = 1 << symbol;
            for (int module = 0; module < MODULES; module++) {
                int defined = globalSets[module] | weakSets[module];
                if (roles[module] == ARCHIVE && (missing & defined & bit) != 0) {
                    return module;
                }
            }
        }
        return NONE;
    }

    private int wantedSymbols() {
        int wanted = 1;
        for (int k = 0; k < listLength; k++) {
            wanted |= outsideUses[list[k]];
        }
        return wanted;
    }

    private int definedSymbols() {
        int defined = 0;
        for (int k = 0; k < listLength; k++) {
            defined |= globalSets[list[k]] | weakSets[list[k]];
        }
        return defined;
    }

    private int severalTimesGlobal() {
        int once = 0;
        int several = 0;
        for (int k = 0; k < listLength; k++) {
            several |= once & globalSets[list[k]];
            once |= globalSets[list[k]];
        }
        return several;
    }

    private int checkSymbols() {
        int several = severalTimesGlobal();
        if (several != 0) {
            blamed = leastSymbol(several);
            return DUPLICATE;
        }
        int missing = wantedSymbols() & ~definedSymbols();
        if (missing != 0) {
            blamed = leastSymbol(missing);
            return UNDEFINED;
        }
        return OK;
    }

    private static int leastSymbol(int set) {
        for (int symbol = 0; symbol < SYMBOLS; symbol++) {
            if ((set & (1 << symbol)) != 0) {
                return symbol;
            }
        }
        return NONE;
    }

    private void chooseLabels() {
        for (int symbol = 0; symbol < SYMBOLS; symbol++) {
            int label = firstInList(symbol, GLOBAL);
            chosen[symbol] = label != NONE ? label : firstInList(symbol, WEAK);
        }
    }

    private int firstInList(int symbol, int kind) {
        for (int k = 0; k < listLength; k++) {
            int label = labelIn(list[k], symbol, kind);
            if (label != NONE) {
                return label;
            }
        }
        return NONE;
    }

    private int labelIn(int module, int symbol, int kind) {
        for (int k = 0; k < counts[module]; k++) {
            int i = module * ITEMS + k;
            if (ops[i] == OP_LABEL && firsts[i] == symbol && seconds[i] == kind) {
                return i;
            }
        }
        return NONE;
    }

    private void findTargets() {
        for (int n = 0; n < listLength; n++) {
            int module = list[n];
            for (int k = 0; k < counts[module]; k++) {
                int i = module * ITEMS + k;
                int symbol = usedSymbol(i);
                if (symbol != NONE) {
                    int own = labelIn(module, symbol, LOCAL);
                    targets[i] = own != NONE ? own : chosen[symbol];
                }
            }
        }
    }

    private void keepUnits() {
        if (stripping) {
            keepReached();
            return;
        }
        for (int k = 0; k < listLength; k++) {
            stays[list[k] * 2 + TEXT] = true;
            stays[list[k] * 2 + DATA] = true;
        }
    }

    private void keepReached() {
        int entry = chosen[0];
        if (entry == NONE) {
            return;
        }
        stays[unitOf[entry]] = true;
        // A chain of uses passes each unit at most once, so as many passes as units reach them all.
        for (int pass = 0; pass < UNITS; pass++) {
            for (int i = 0; i < ALL_ITEMS; i++) {
                if (targets[i] != NONE && stays[unitOf[i]]) {
                    stays[unitOf[targets[i]]] = true;
                }
            }
        }
    }

    private int relax() {
        // Each round but the last makes at least one item long, so there are at most one more than items.
        for (int round = 0; round <= ALL_ITEMS; round++) {
            textEnd = placeSection(TEXT, base);
            allEnd = placeSection(DATA, textEnd);
            if (allEnd > WORDS) {
                return LARGE;
            }
            int more = lengthen();
            if (more == 0) {
                return OK;
            }
            longCount += more;
            longRounds++;
        }
        return OK;
    }

    private int placeSection(int section, int start) {
        int at = start;
        for (int n = 0; n < listLength; n++) {
            int unit = list[n] * 2 + section;
            if (stays[unit]) {
                at = placeUnit(list[n], unit, at);
            }
        }
        return at;
    }

    private int placeUnit(int module, int unit, int start) {
        int at = start;
        for (int k = 0; k < counts[module]; k++) {
            int i = module * ITEMS + k;
            if (unitOf[i] == unit) {
                places[i] = at;
                at += wordsOf(i, at);
            }
        }
        return at;
    }

    private int wordsOf(int i, int at) {
        switch (ops[i]) {
            case OP_LABEL:
            case OP_SECTION:
                return 0;
            case OP_SPACE:
                return firsts[i];
            case OP_ALIGN:
                return wordsToMultiple(at, firsts[i]);
            default:
                return hasTwoWords(i) ? 2 : 1;
        }
    }

    private static int wordsToMultiple(int at, int step) {
        if (step < 1) {
            return 0;
        }
        int over = at % step;
        return over == 0 ? 0 : step - over;
    }

    private boolean hasTwoWords(int i) {
        if (ops[i] == OP_LI) {
            return seconds[i] < -128 || seconds[i] > 127;
        }
        return madeLong[i];
    }

    private int lengthen() {
        int more = 0;
        for (int i = 0; i < ALL_ITEMS; i++) {
            if (places[i] != NONE && targets[i] != NONE && !madeLong[i] && isTooFar(i)) {
                madeLong[i] = true;
                more++;
            }
        }
        return more;
    }

    private boolean isTooFar(int i) {
        int goal = places[targets[i]];
        int distance = goal - places[i];
        switch (ops[i]) {
            case OP_JUMP:
            case OP_JZ:
            case OP_CALL:
                return distance < -16 || distance > 15;
            case OP_LA:
                return goal > 63;
            default:
                return false;
        }
    }

    private void fillImage() {
        for (int at = 0; at < WORDS; at++) {
            image[at] = 0;
        }
        for (int i = 0; i < ALL_ITEMS; i++) {
            if (places[i] != NONE) {
                fillItem(i);
            }
        }
    }

    private void fillItem(int i) {
        int goal = targets[i] != NONE ? places[targets[i]] : 0;
        switch (ops[i]) {
            case OP_LABEL:
            case OP_SPACE:
            case OP_ALIGN:
            case OP_SECTION:
                return;
            case OP_WORD:
                putWord(places[i], seconds[i]);
                return;
            case OP_ADDRESS:
                putWord(places[i], goal + seconds[i]);
                return;
            default:
                fillInstruction(i, goal);
        }
    }

    private void fillInstruction(int i, int goal) {
        int at = places[i];
        int low = lowPart(i, goal) & LOW_BITS;
        int first = (ops[i] << 24) + (registerOf(i) << 20) + low;
        if (hasTwoWords(i)) {
            int second = ops[i] == OP_LI ? seconds[i] : goal;
            putWord(at, first + LONG_BIT);
            putWord(at + 1, second);
        } else {
            putWord(at, first);
        }
    }

    private void putWord(int at, int value) {
        if (isAddress(at)) {
            image[at] = value;
        }
    }

    private int registerOf(int i) {
        switch (ops[i]) {
            case OP_JUMP:
            case OP_CALL:
            case OP_RET:
            case OP_HALT:
                // The operand is not used there, so it may be any number.
                return 0;
            default:
                return firsts[i];
        }
    }

    private int lowPart(int i, int goal) {
        switch (ops[i]) {
            case OP_JUMP:
            case OP_JZ:
            case OP_CALL:
                return goal - places[i];
            case OP_LA:
                return goal;
            case OP_RET:
            case OP_OUT:
            case OP_HALT:
                return 0;
            default:
                return seconds[i];
        }
    }

    private void beginRun() {
        ran = true;
        for (int at = 0; at < WORDS; at++) {
            store[at] = image[at];
        }
        for (int r = 0; r < REGISTERS; r++) {
            registers[r] = 0;
        }
        for (int k = 0; k < OUTPUTS; k++) {
            output[k] = 0;
        }
        outs = 0;
        steps = 0;
        pc = chosen[0] == NONE ? 0 : places[chosen[0]];
    }

    private int step() {
        if (!isAddress(pc)) {
            return WILD;
        }
        int taken = store[pc];
        int op = (taken >>> 24) & 31;
        if (op < OP_LI || op > OP_HALT) {
            return ILLEGAL;
        }
        boolean isLong = (taken & LONG_BIT) != 0;
        if (isLong && !isAddress(pc + 1)) {
            return WILD;
        }
        int a = (taken >>> 20) & 7;
        int n = (short) taken;
        int b = n & 7;
        if ((op == OP_LOAD || op == OP_STORE) && !isAddress(registers[b])) {
            return WILD;
        }
        steps++;
        if (op == OP_HALT) {
            return DONE;
        }
        int value = isLong ? store[pc + 1] : n;
        int next = isLong ? pc + 2 : pc + 1;
        if (op >= OP_JUMP && op <= OP_RET) {
            int goal = isLong ? value : pc + n;
            pc = follow(op, a, goal, next);
        } else {
            compute(op, a, b, value);
            pc = next;
        }
        return GOING;
    }

    private int follow(int op, int a, int goal, int next) {
        switch (op) {
            case OP_JUMP:
                return goal;
            case OP_JZ:
                return registers[a] == 0 ? goal : next;
            case OP_CALL:
                registers[LINK_REGISTER] = next;
                return goal;
            default:
                return registers[LINK_REGISTER];
        }
    }

    private void compute(int op, int a, int b, int value) {
        switch (op) {
            case OP_LI:
            case OP_LA:
                registers[a] = value;
                break;
            case OP_ADD:
                registers[a] += registers[b];
                break;
            case OP_SUB:
                registers[a] -= registers[b];
                break;
            case OP_MUL:
                registers[a] *= registers[b];
                break;
            case OP_LESS:
                registers[a] = registers[a] < registers[b] ? 1 : 0;
                break;
            case OP_LOAD:
                registers[a] = loaded(registers[b]);
                break;
            case OP_STORE:
                keep(registers[b], registers[a]);
                break;
            default:
                addOutput(registers[a]);
        }
    }

    private int loaded(int at) {
        return isAddress(at) ? store[at] : 0;
    }

    private void keep(int at, int value) {
        if (isAddress(at)) {
            store[at] = value;
        }
    }

    private void addOutput(int value) {
        if (outs < OUTPUTS) {
            output[outs] = value;
        }
        outs++;
    }
}
