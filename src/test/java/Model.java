import java.util.ArrayList;
import java.util.HashMap;
import java.util.HashSet;
import java.util.List;
import java.util.Map;
import java.util.Set;
import java.util.TreeSet;

/** A second reading of the document, with lists and maps, to compare the program with. */
final class Model {
    /** An item; two items are the same only if they are the same object. */
    private static final class Item {
        final int op, a, b;
        int module, section;

        Item(int op, int a, int b) {
            this.op = op;
            this.a = a;
            this.b = b;
        }

        boolean isLabel() {
            return op == Op.LABEL;
        }

        boolean defines() {
            return isLabel() && b != Op.LOCAL;
        }

        int use() {
            return op == Op.JUMP || op == Op.JZ || op == Op.CALL || op == Op.LA ? b : op == Op.ADDRESS ? a : -1;
        }

        String unit() {
            return module + "/" + section;
        }
    }

    private final List<List<Item>> modules = new ArrayList<>();
    private final int[] roles = new int[6];
    private int origin = 0;
    private boolean strip = false;

    private boolean linked = false;
    private int culprit = -1;
    private List<Integer> list = new ArrayList<>();
    private List<List<Item>> then = new ArrayList<>();
    private Map<Integer, Item> chosen = new HashMap<>();
    private Map<Item, Integer> places = new HashMap<>();
    private final int[] sizes = new int[4];
    private int[] image = new int[256];

    private boolean ran = false;
    private int[] memory = new int[256];
    private int[] registers = new int[8];
    private int pc, steps;
    private List<Integer> output = new ArrayList<>();

    Model() {
        for (int m = 0; m < 6; m++) {
            modules.add(new ArrayList<>());
        }
    }

    private static boolean in(int value, int least, int greatest) {
        return least <= value && value <= greatest;
    }

    int item(int module, int op, int a, int b) {
        if (!in(module, 0, 5) || !in(op, 0, 19) || modules.get(module).size() == 24) {
            return -1;
        }
        boolean registerA = in(op, 1, 7) || op == 9 || op == 12 || op == 13;
        boolean registerB = in(op, 2, 7);
        boolean symbolB = in(op, 8, 10) || op == 12;
        boolean symbolA = op == 0 || op == 16;
        if (registerA && !in(a, 0, 7) || registerB && !in(b, 0, 7) || symbolA && !in(a, 0, 15) || symbolB && !in(b, 0, 15)
            || op == 0 && !in(b, 0, 2) || op == 16 && !in(b, -64, 64) || op == 17 && !in(a, 0, 16) || op == 18 && !in(a, 2, 8)
            || op == 19 && !in(a, 0, 1)) {
            return -1;
        }
        modules.get(module).add(new Item(op, a, b));
        return modules.get(module).size() - 1;
    }

    int clear(int module) {
        if (!in(module, 0, 5)) {
            return -1;
        }
        int had = modules.get(module).size();
        modules.set(module, new ArrayList<>());
        return had;
    }

    boolean role(int module, int how) {
        if (!in(module, 0, 5) || !in(how, 0, 2)) {
            return false;
        }
        roles[module] = how;
        return true;
    }

    boolean layout(int origin, boolean strip) {
        if (!in(origin, 0, 100)) {
            return false;
        }
        this.origin = origin;
        this.strip = strip;
        return true;
    }

    private Item local(int module, int symbol) {
        for (Item item : then.get(module)) {
            if (item.isLabel() && item.b == Op.LOCAL && item.a == symbol) {
                return item;
            }
        }
        return null;
    }

    private Set<Integer> asked() {
        Set<Integer> asked = new TreeSet<>();
        asked.add(0);
        for (int module : list) {
            for (Item item : then.get(module)) {
                if (item.use() >= 0 && local(module, item.use()) == null) {
                    asked.add(item.use());
                }
            }
        }
        return asked;
    }

    private Set<Integer> defined(int module) {
        Set<Integer> defined = new HashSet<>();
        for (Item item : then.get(module)) {
            if (item.defines()) {
                defined.add(item.a);
            }
        }
        return defined;
    }

    private Set<Integer> definedInList() {
        Set<Integer> defined = new HashSet<>();
        for (int module : list) {
            defined.addAll(defined(module));
        }
        return defined;
    }

    private boolean faulty(int module) {
        Set<Integer> seen = new HashSet<>();
        for (Item item : then.get(module)) {
            if (item.isLabel() && !seen.add(item.a)) {
                culprit = module;
                return true;
            }
        }
        return false;
    }

    private int fromArchive() {
        Set<Integer> missing = asked();
        missing.removeAll(definedInList());
        for (int symbol : missing) {
            for (int module = 0; module < 6; module++) {
                if (roles[module] == 2 && defined(module).contains(symbol)) {
                    return module;
                }
            }
        }
        return -1;
    }

    int link() {
        linked = false;
        ran = false;
        culprit = -1;
        list = new ArrayList<>();
        then = new ArrayList<>();
        chosen = new HashMap<>();
        places = new HashMap<>();
        for (int module = 0; module < 6; module++) {
            List<Item> copy = new ArrayList<>();
            int section = 0;
            for (Item item : modules.get(module)) {
                Item one = new Item(item.op, item.a, item.b);
                section = one.op == Op.SECTION ? one.a : section;
                one.module = module;
                one.section = section;
                copy.add(one);
            }
            then.add(copy);
        }
        for (int module = 0; module < 6; module++) {
            if (roles[module] == 1) {
                list.add(module);
            }
        }
        for (int module : list) {
            if (faulty(module)) {
                return LinkYard.FAULTY;
            }
        }
        for (int next = fromArchive(); next >= 0; next = fromArchive()) {
            if (faulty(next)) {
                return LinkYard.FAULTY;
            }
            list.add(next);
        }
        for (int symbol = 0; symbol < 16; symbol++) {
            if (choose(symbol)) {
                culprit = symbol;
                return LinkYard.DUPLICATE;
            }
        }
        for (int symbol : asked()) {
            if (chosen.get(symbol) == null) {
                culprit = symbol;
                return LinkYard.UNDEFINED;
            }
        }
        return build();
    }

    /** Chooses the label of a symbol; whether there are several global ones. */
    private boolean choose(int symbol) {
        List<Item> globals = new ArrayList<>();
        List<Item> weaks = new ArrayList<>();
        for (int module : list) {
            for (Item item : then.get(module)) {
                if (item.defines() && item.a == symbol) {
                    (item.b == Op.GLOBAL ? globals : weaks).add(item);
                }
            }
        }
        if (!globals.isEmpty() || !weaks.isEmpty()) {
            chosen.put(symbol, globals.isEmpty() ? weaks.get(0) : globals.get(0));
        }
        return globals.size() > 1;
    }

    private Item target(Item item) {
        if (item.use() < 0) {
            return null;
        }
        Item own = local(item.module, item.use());
        return own != null ? own : chosen.get(item.use());
    }

    private void reach(String unit, Set<String> reached) {
        if (!reached.add(unit)) {
            return;
        }
        for (int module : list) {
            for (Item item : then.get(module)) {
                if (item.unit().equals(unit) && target(item) != null) {
                    reach(target(item).unit(), reached);
                }
            }
        }
    }

    private int build() {
        Set<String> reached = new HashSet<>();
        reach(chosen.get(0).unit(), reached);
        List<Item> order = new ArrayList<>();
        int texts = 0;
        for (int section = 0; section < 2; section++) {
            for (int module : list) {
                for (Item item : then.get(module)) {
                    if (item.section == section && (!strip || reached.contains(item.unit()))) {
                        order.add(item);
                    }
                }
            }
            texts = section == 0 ? order.size() : texts;
        }
        Set<Item> longs = new HashSet<>();
        sizes[3] = 0;
        while (true) {
            int at = origin;
            sizes[0] = origin;
            for (int k = 0; k < order.size(); k++) {
                Item item = order.get(k);
                places.put(item, at);
                at += words(item, at, longs);
                sizes[0] = k < texts ? at : sizes[0];
            }
            sizes[1] = at;
            if (at > 256) {
                return LinkYard.LARGE;
            }
            Set<Item> more = new HashSet<>();
            for (Item item : order) {
                if (tooFar(item) && !longs.contains(item)) {
                    more.add(item);
                }
            }
            if (more.isEmpty()) {
                break;
            }
            longs.addAll(more);
            sizes[3]++;
        }
        sizes[2] = longs.size();
        image = new int[256];
        for (Item item : order) {
            encode(item, longs.contains(item) || longLi(item));
        }
        linked = true;
        return LinkYard.OK;
    }

    private static boolean longLi(Item item) {
        return item.op == Op.LI && !in(item.b, -128, 127);
    }

    private static int words(Item item, int at, Set<Item> longs) {
        if (item.op == Op.LABEL || item.op == Op.SECTION) {
            return 0;
        }
        if (item.op == Op.SPACE) {
            return item.a;
        }
        if (item.op == Op.ALIGN) {
            int next = at;
            while (next % item.a != 0) {
                next++;
            }
            return next - at;
        }
        return longs.contains(item) || longLi(item) ? 2 : 1;
    }

    private boolean tooFar(Item item) {
        if (in(item.op, 8, 10)) {
            return !in(places.get(target(item)) - places.get(item), -16, 15);
        }
        return item.op == Op.LA && places.get(target(item)) > 63;
    }

    private void encode(Item item, boolean two) {
        int at = places.get(item);
        int label = target(item) == null ? 0 : places.get(target(item));
        if (item.op == Op.WORD) {
            image[at] = item.b;
        } else if (item.op == Op.ADDRESS) {
            image[at] = label + item.b;
        } else if (in(item.op, 1, 14)) {
            int low = in(item.op, 1, 7) ? item.b : in(item.op, 8, 10) ? label - at : item.op == 12 ? label : 0;
            int register = item.op == 8 || item.op == 10 || item.op == 11 || item.op == 14 ? 0 : item.a;
            image[at] = item.op * 16777216 + register * 1048576 + (two ? 65536 : 0) + Math.floorMod(low, 65536);
            if (two) {
                image[at + 1] = item.op == 1 ? item.b : label;
            }
        }
    }

    int culprit() {
        return culprit;
    }

    int listed(int k) {
        return linked && in(k, 0, list.size() - 1) ? list.get(k) : -1;
    }

    int address(int symbol) {
        return linked && chosen.containsKey(symbol) ? places.getOrDefault(chosen.get(symbol), -1) : -1;
    }

    int where(int module, int k) {
        if (!linked || !in(module, 0, 5) || !in(k, 0, then.get(module).size() - 1)) {
            return -1;
        }
        return places.getOrDefault(then.get(module).get(k), -1);
    }

    int word(int address) {
        return linked && in(address, 0, 255) ? image[address] : -1;
    }

    int size(int what) {
        return linked && in(what, 0, 3) ? sizes[what] : -1;
    }

    int run() {
        if (!linked) {
            return LinkYard.NOTHING;
        }
        ran = true;
        memory = image.clone();
        registers = new int[8];
        output = new ArrayList<>();
        pc = places.get(chosen.get(0));
        steps = 0;
        while (true) {
            if (steps == 300) {
                return LinkYard.LIMIT;
            }
            if (!in(pc, 0, 255)) {
                return LinkYard.WILD;
            }
            int bits = memory[pc];
            int op = bits >> 24 & 0x1F;
            int a = bits >> 20 & 7;
            boolean two = (bits >> 16 & 1) == 1;
            int n = (bits & 0xFFFF) >= 0x8000 ? (bits & 0xFFFF) - 0x10000 : bits & 0xFFFF;
            int b = n & 7;
            if (!in(op, 1, 14)) {
                return LinkYard.ILLEGAL;
            }
            if (two && pc == 255 || (op == 6 || op == 7) && !in(registers[b], 0, 255)) {
                return LinkYard.WILD;
            }
            steps++;
            if (op == 14) {
                return LinkYard.DONE;
            }
            execute(op, a, b, n, two);
        }
    }

    private void execute(int op, int a, int b, int n, boolean two) {
        int v = two ? memory[pc + 1] : n;
        int next = pc + (two ? 2 : 1);
        int goal = two ? v : pc + n;
        switch (op) {
            case 1, 12 -> registers[a] = v;
            case 2 -> registers[a] = registers[a] + registers[b];
            case 3 -> registers[a] = registers[a] - registers[b];
            case 4 -> registers[a] = registers[a] * registers[b];
            case 5 -> registers[a] = registers[a] < registers[b] ? 1 : 0;
            case 6 -> registers[a] = memory[registers[b]];
            case 7 -> memory[registers[b]] = registers[a];
            case 8 -> next = goal;
            case 9 -> next = registers[a] == 0 ? goal : next;
            case 10 -> {
                registers[7] = next;
                next = goal;
            }
            case 11 -> next = registers[7];
            default -> output.add(registers[a]);
        }
        pc = next;
    }

    int state(int what) {
        if (!ran || what < 0) {
            return 0;
        }
        if (what < 8) {
            return registers[what];
        }
        if (what < 11) {
            return what == 8 ? pc : what == 9 ? steps : output.size();
        }
        int k = what - 11;
        return k < 40 && k < output.size() ? output.get(k) : 0;
    }

    int memory(int address) {
        return ran && in(address, 0, 255) ? memory[address] : 0;
    }
}
