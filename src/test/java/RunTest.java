/** Promises 13 to 16: run, state, memory, order and limits. */
public final class RunTest {
    private static final Check check = new Check();
    private static final int PC = 8, STEPS = 9, OUTS = 10, FIRST = 11;

    public static void main(String[] args) {
        nothing();
        arithmetic();
        loadAndStore();
        jumps();
        calls();
        longJumps();
        outputs();
        limit();
        haltAtLimit();
        limitBeforeWild();
        wildPc();
        wildLong();
        wildAddress();
        illegal();
        orderOfEnds();
        highBits();
        changesItself();
        longBitAnywhere();
        beginsAnew();
        outOfRange();
        check.end();
    }

    private static LinkYard ends(String what, int end, int pc, int steps, int... items) {
        LinkYard yard = Op.program(items);
        check.due(what + ": link()", yard.link(), LinkYard.OK);
        runs(what, yard, end, pc, steps);
        return yard;
    }

    private static void runs(String what, LinkYard yard, int end, int pc, int steps) {
        check.due(what + ": run()", yard.run(), end);
        check.due(what + ": PC", yard.state(PC), pc);
        check.due(what + ": steps", yard.state(STEPS), steps);
    }

    private static void registers(String what, LinkYard yard, int... wanted) {
        for (int r = 0; r < wanted.length; r++) {
            check.due(what + ": register " + r, yard.state(r), wanted[r]);
        }
    }

    private static void nothing() {
        LinkYard yard = new LinkYard();
        check.due("run()", yard.run(), LinkYard.NOTHING);
        yard.link();
        check.due("run() after a link that failed", yard.run(), LinkYard.NOTHING);
        check.due("state(8)", yard.state(PC), 0);
    }

    private static void arithmetic() {
        LinkYard yard = ends("arithmetic", LinkYard.DONE, 16, 14, Op.LI, 0, 5, Op.LI, 1, -7, Op.LI, 2, Integer.MAX_VALUE,
            Op.LI, 3, 1, Op.ADD, 2, 3, Op.SUB, 0, 1, Op.MUL, 1, 1, Op.LI, 4, -1, Op.LESS, 4, 3, Op.LI, 5, 65536, Op.MUL, 5, 5,
            Op.LI, 6, -200, Op.LESS, 3, 3, Op.HALT, 0, 0);
        registers("arithmetic", yard, 12, 49, Integer.MIN_VALUE, 0, 1, 0, -200, 0);
    }

    private static void loadAndStore() {
        LinkYard yard = ends("memory", LinkYard.DONE, 7, 8, Op.LA, 1, 2, Op.LOAD, 2, 1, Op.LI, 3, 6, Op.ADD, 2, 3, Op.STORE, 2, 1,
            Op.LI, 4, 127, Op.STORE, 3, 4, Op.HALT, 0, 0, Op.SECTION, 1, 0, Op.LABEL, 2, Op.LOCAL, Op.WORD, 0, 30);
        registers("memory", yard, 0, 8, 36, 6, 127, 0, 0, 0);
        check.due("memory(8)", yard.memory(8), 36);
        check.due("memory(127)", yard.memory(127), 6);
        check.due("memory(7)", yard.memory(7), 0x0E000000);
        check.due("memory(9)", yard.memory(9), 0);
        check.due("word(8) stays", yard.word(8), 30);
        check.due("word(127) stays", yard.word(127), 0);
        LinkYard edges = ends("edges", LinkYard.DONE, 5, 5, Op.LI, 1, 255, Op.STORE, 1, 1, Op.STORE, 1, 0, Op.LOAD, 2, 0, Op.HALT, 0, 0);
        check.due("memory(255)", edges.memory(255), 255);
        check.due("memory(0)", edges.memory(0), 255);
        registers("edges", edges, 0, 255, 255);
        check.due("OUTs", edges.state(OUTS), 0);
        LinkYard same = ends("LOAD by its own register", LinkYard.DONE, 2, 3, Op.LI, 1, 3, Op.LOAD, 1, 1, Op.HALT, 0, 0, Op.WORD, 0, 90);
        check.due("what it loaded", same.state(1), 90);
        check.due("memory(3)", same.memory(3), 90);
        check.due("memory(90)", same.memory(90), 0);
    }

    private static void jumps() {
        LinkYard yard = ends("jumps", LinkYard.DONE, 6, 5, Op.JUMP, 0, 1, Op.HALT, 0, 0, Op.LABEL, 1, Op.LOCAL, Op.JZ, 3, 2,
            Op.HALT, 0, 0, Op.LABEL, 2, Op.LOCAL, Op.LI, 3, 4, Op.JZ, 3, 1, Op.HALT, 0, 0);
        registers("jumps", yard, 0, 0, 0, 4);
    }

    private static void calls() {
        LinkYard yard = new LinkYard();
        Op.put(yard, 0, Op.LABEL, 1, Op.LOCAL, Op.LI, 2, 9, Op.RET, 0, 0, Op.LABEL, 0, Op.WEAK, Op.CALL, 0, 1, Op.OUT, 7, 0, Op.HALT, 0, 0);
        yard.role(0, Op.TAKEN);
        yard.layout(20, false);
        yard.link();
        runs("calls", yard, LinkYard.DONE, 24, 5);
        registers("calls", yard, 0, 0, 9, 0, 0, 0, 0, 23);
        check.due("the output", yard.state(FIRST), 23);
    }

    private static void longJumps() {
        LinkYard yard = Op.program(Op.CALL, 0, 1, Op.JZ, 0, 2, Op.HALT, 0, 0);
        Op.put(yard, 1, Op.SPACE, 16, 0, Op.LABEL, 1, Op.GLOBAL, Op.RET, 0, 0, Op.LABEL, 2, Op.GLOBAL, Op.LI, 0, 1, Op.LA, 1, 2,
            Op.JUMP, 0, 3, Op.SPACE, 16, 0, Op.LABEL, 3, Op.GLOBAL, Op.JZ, 0, 2, Op.HALT, 0, 0);
        yard.role(1, Op.TAKEN);
        yard.layout(50, false);
        yard.link();
        runs("long jumps", yard, LinkYard.DONE, 95, 8);
        registers("long jumps", yard, 1, 72, 0, 0, 0, 0, 0, 52);
    }

    private static void outputs() {
        LinkYard yard = ends("outputs", LinkYard.DONE, 8, 4 + 45 * 4, Op.LI, 1, 45, Op.LI, 2, 1, Op.LABEL, 1, Op.LOCAL, Op.OUT, 1, 0,
            Op.SUB, 1, 2, Op.JZ, 1, 2, Op.JUMP, 0, 1, Op.LABEL, 2, Op.LOCAL, Op.LI, 3, 3, Op.LI, 3, 4, Op.HALT, 0, 0);
        check.due("how many OUTs", yard.state(OUTS), 45);
        for (int k = 0; k < 40; k++) {
            check.due("output " + k, yard.state(FIRST + k), 45 - k);
        }
        for (int k = 40; k < 50; k++) {
            check.due("output " + k, yard.state(FIRST + k), 0);
        }
    }

    private static void limit() {
        LinkYard yard = ends("a loop of one", LinkYard.LIMIT, 0, 300, Op.JUMP, 0, 0);
        check.due("OUTs", yard.state(OUTS), 0);
        LinkYard seven = ends("a loop of seven", LinkYard.LIMIT, 300 % 7, 300, Op.ADD, 0, 0, Op.ADD, 0, 0, Op.ADD, 0, 0, Op.ADD, 0, 0,
            Op.ADD, 0, 0, Op.OUT, 0, 0, Op.JUMP, 0, 0);
        check.due("OUTs", seven.state(OUTS), 43);
    }

    /** A program that comes to the rest after so many steps: a loop of three steps, then ADDs. */
    private static LinkYard after(int steps, int... rest) {
        int loops = (steps - 2) / 3;
        int adds = (steps - 2) % 3;
        LinkYard yard = Op.program(Op.LI, 1, loops, Op.LI, 2, 1, Op.LABEL, 1, Op.LOCAL, Op.SUB, 1, 2, Op.JZ, 1, 2, Op.JUMP, 0, 1,
            Op.LABEL, 2, Op.LOCAL, Op.ADD, 0, 0);
        // The last loop has no JUMP, so the ADD behind it makes up for that step.
        for (int k = 0; k < adds; k++) {
            Op.put(yard, 0, Op.ADD, 0, 0);
        }
        Op.put(yard, 0, rest);
        yard.link();
        return yard;
    }

    private static void haltAtLimit() {
        LinkYard last = after(299, Op.HALT, 0, 0);
        runs("HALT is step 300", last, LinkYard.DONE, last.size(1) - 1, 300);
        LinkYard late = after(300, Op.HALT, 0, 0);
        runs("HALT would be step 301", late, LinkYard.LIMIT, late.size(1) - 1, 300);
    }

    private static void limitBeforeWild() {
        LinkYard yard = after(299, Op.JUMP, 0, 3, Op.LABEL, 3, Op.LOCAL, Op.WORD, 0, 0);
        runs("LIMIT before ILLEGAL", yard, LinkYard.LIMIT, yard.size(1) - 1, 300);
        LinkYard wild = after(298, Op.LI, 7, -3, Op.RET, 0, 0);
        runs("LIMIT before WILD", wild, LinkYard.LIMIT, -3, 300);
        LinkYard illegal = after(299, Op.WORD, 0, 0);
        runs("ILLEGAL after 299", illegal, LinkYard.ILLEGAL, illegal.size(1) - 1, 299);
    }

    private static void wildPc() {
        ends("RET below", LinkYard.WILD, -1, 2, Op.LI, 7, -1, Op.RET, 0, 0);
        ends("RET above", LinkYard.WILD, 256, 2, Op.LI, 7, 256, Op.RET, 0, 0);
        ends("RET far above", LinkYard.WILD, Integer.MAX_VALUE, 2, Op.LI, 7, Integer.MAX_VALUE, Op.RET, 0, 0);
        ends("JUMP below", LinkYard.WILD, -32768, 1, Op.WORD, 0, 0x08008000);
        ends("JUMP above", LinkYard.WILD, 32767, 1, Op.WORD, 0, 0x08007FFF);
        ends("long JUMP", LinkYard.WILD, Integer.MIN_VALUE, 1, Op.WORD, 0, 0x08010001, Op.WORD, 0, Integer.MIN_VALUE);
        LinkYard yard = new LinkYard();
        yard.role(0, Op.TAKEN);
        Op.space(yard, 0, 254);
        Op.put(yard, 0, Op.LABEL, 0, Op.GLOBAL, Op.ADD, 0, 0, Op.ADD, 0, 0);
        yard.link();
        runs("runs out of the image", yard, LinkYard.WILD, 256, 2);
        yard.clear(0);
        Op.space(yard, 0, 256);
        Op.put(yard, 0, Op.LABEL, 0, Op.GLOBAL);
        yard.link();
        runs("an entry behind the image", yard, LinkYard.WILD, 256, 0);
    }

    private static LinkYard lastWord(int value) {
        LinkYard yard = new LinkYard();
        yard.role(0, Op.TAKEN);
        Op.space(yard, 0, 255);
        Op.put(yard, 0, Op.LABEL, 0, Op.GLOBAL, Op.WORD, 0, value);
        yard.link();
        return yard;
    }

    private static void wildLong() {
        for (int op = Op.LI; op <= Op.HALT; op++) {
            LinkYard yard = lastWord((op << 24) + 0x00310000);
            runs("long op " + op + " at 255", yard, LinkYard.WILD, 255, 0);
            registers("long op " + op, yard, 0, 0, 0, 0, 0, 0, 0, 0);
            check.due("OUTs", yard.state(OUTS), 0);
            check.due("memory(0)", yard.memory(0), 0);
        }
        runs("short HALT at 255", lastWord(0x0E000000), LinkYard.DONE, 255, 1);
        runs("short LI at 255", lastWord(0x01000001), LinkYard.WILD, 256, 1);
        LinkYard fits = new LinkYard();
        fits.role(0, Op.TAKEN);
        Op.space(fits, 0, 254);
        Op.put(fits, 0, Op.LABEL, 0, Op.GLOBAL, Op.WORD, 0, 0x01310000, Op.WORD, 0, 99);
        fits.link();
        runs("long LI at 254", fits, LinkYard.WILD, 256, 1);
        check.due("its value", fits.state(3), 99);
    }

    private static void wildAddress() {
        for (int odd : new int[] {-1, 256, Integer.MAX_VALUE, Integer.MIN_VALUE}) {
            int second = odd == -1 ? 1 : 2;
            LinkYard load = ends("LOAD from " + odd, LinkYard.WILD, second, 1, Op.LI, 1, odd, Op.LOAD, 1, 1, Op.HALT, 0, 0);
            check.due("register 1", load.state(1), odd);
            ends("STORE to " + odd, LinkYard.WILD, second, 1, Op.LI, 1, odd, Op.STORE, 0, 1, Op.HALT, 0, 0);
        }
    }

    private static void illegal() {
        for (int op = 0; op < 32; op++) {
            if (op < 1 || op > 14) {
                LinkYard yard = ends("op " + op, LinkYard.ILLEGAL, 1, 1, Op.LI, 3, 8, Op.WORD, 0, (op << 24) + 0x00300005);
                registers("op " + op, yard, 0, 0, 0, 8, 0, 0, 0, 0);
            }
        }
    }

    private static void orderOfEnds() {
        runs("ILLEGAL before WILD of the word behind", lastWord(0x0F010000), LinkYard.ILLEGAL, 255, 0);
        runs("ILLEGAL of 0", lastWord(0x00010000), LinkYard.ILLEGAL, 255, 0);
    }

    private static void highBits() {
        // Bits 29 to 31, 23, and 17 to 19 say nothing.
        LinkYard yard = ends("high bits", LinkYard.DONE, 1, 2, Op.WORD, 0, 0xE1BEFFFD, Op.WORD, 0, 0xEE8E0000);
        registers("high bits", yard, 0, 0, 0, -3);
        LinkYard add = ends("only 3 bits of n", LinkYard.DONE, 2, 3, Op.LI, 2, 5, Op.WORD, 0, 0x0210FFFA, Op.HALT, 0, 0);
        registers("only 3 bits of n", add, 0, 5, 5);
    }

    private static void changesItself() {
        LinkYard yard = ends("changes itself", LinkYard.DONE, 4, 5, Op.LA, 1, 1, Op.LOAD, 2, 1, Op.LA, 3, 2, Op.STORE, 2, 3, Op.LABEL, 2, Op.LOCAL,
            Op.JUMP, 0, 2, Op.LABEL, 1, Op.LOCAL, Op.HALT, 0, 0);
        check.due("memory(4)", yard.memory(4), 0x0E000000);
        check.due("word(4)", yard.word(4), 0x08000000);
        runs("and again, from the image as linked", yard, LinkYard.DONE, 4, 5);
        LinkYard second = ends("changes a second word", LinkYard.DONE, 6, 6, Op.LI, 1, 4, Op.LI, 2, 77, Op.STORE, 2, 1,
            Op.LI, 3, 1000, Op.OUT, 3, 0, Op.HALT, 0, 0);
        check.due("its output", second.state(FIRST), 77);
    }

    private static void longBitAnywhere() {
        // Where the value is not asked for, LONG only makes the next PC one more.
        LinkYard yard = ends("LONG bits", LinkYard.DONE, 5, 4, Op.LI, 1, 6, Op.WORD, 0, 0x02110001, Op.WORD, 0, 0, Op.WORD, 0, 0x0D110000,
            Op.WORD, 0, 0, Op.WORD, 0, 0x0E010000, Op.WORD, 0, 0);
        check.due("the output", yard.state(FIRST), 12);
        LinkYard call = ends("CALL LONG", LinkYard.DONE, 4, 2, Op.WORD, 0, 0x0A010001, Op.WORD, 0, 4, Op.HALT, 0, 0, Op.HALT, 0, 0, Op.HALT, 0, 0);
        check.due("the LINK", call.state(7), 2);
        LinkYard jz = ends("JZ LONG, not taken", LinkYard.DONE, 3, 3, Op.LI, 1, 1, Op.WORD, 0, 0x09110001, Op.WORD, 0, 9, Op.HALT, 0, 0);
        check.due("register 1", jz.state(1), 1);
    }

    private static void beginsAnew() {
        LinkYard yard = Op.program(Op.LI, 1, 3, Op.ADD, 2, 1, Op.ADD, 0, 1, Op.OUT, 2, 0, Op.HALT, 0, 0);
        yard.link();
        yard.run();
        runs("anew", yard, LinkYard.DONE, 4, 5);
        registers("anew", yard, 3, 3, 3);
        check.due("OUTs", yard.state(OUTS), 1);
        check.due("output 1", yard.state(FIRST + 1), 0);
        yard.clear(0);
        Op.put(yard, 0, Op.LABEL, 0, Op.GLOBAL, Op.HALT, 0, 0);
        yard.link();
        yard.run();
        check.due("output 0 of the next", yard.state(FIRST), 0);
        check.due("register 1 of the next", yard.state(1), 0);
        check.due("memory(1) of the next", yard.memory(1), 0);
    }

    private static void outOfRange() {
        LinkYard yard = ends("out of range", LinkYard.DONE, 2, 3, Op.LI, 1, 3, Op.OUT, 1, 0, Op.HALT, 0, 0);
        for (int odd : new int[] {-1, 51, 12, Integer.MAX_VALUE, Integer.MIN_VALUE}) {
            check.due("state(" + odd + ")", yard.state(odd), 0);
        }
        for (int odd : new int[] {-1, 256, 255, Integer.MAX_VALUE, Integer.MIN_VALUE}) {
            check.due("memory(" + odd + ")", yard.memory(odd), 0);
        }
    }
}
