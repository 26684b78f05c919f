import java.util.function.Supplier;

/** The boundary cases of promises 13 to 16, and of running. */
public final class EdgesOfRunTest {
    private static final Check check = new Check();
    private static final int MIN = Integer.MIN_VALUE, MAX = Integer.MAX_VALUE;
    private static final int PC = 8, STEPS = 9, OUTS = 10, FIRST = 11;

    public static void main(String[] args) {
        nothingIsLinked();
        beginsAtTheEntry();
        beginsAnew();
        haltAtTheLimit();
        limitBeforeOtherEnds();
        endlessLoop();
        firstAndLastAddress();
        pcOutside();
        runsOverTheEnd();
        ops();
        bitsThatSayNothing();
        signedLowBits();
        registerOfLowBits();
        wordBehindALongOne();
        wordBehindTheLast();
        wrapAround();
        less();
        loadAndStoreEnds();
        loadAndStoreOutside();
        jumpByZero();
        jumpIfZeroAlone();
        linkOfCalls();
        retWithoutCall();
        outputsKept();
        noOutput();
        nothingChangesAtTheEnd();
        orderOfEnds();
        changesItself();
        changesTheWordBehind();
        runsWhereNothingLay();
        stateEnds();
        stateWithoutRun();
        memoryEnds();
        memoryWithoutRun();
        pcAtTheEnd();
        check.end();
    }

    private static void runs(String what, LinkYard yard, int end, int pc, int steps) {
        check.due(what + ": run()", yard.run(), end);
        check.due(what + ": PC", yard.state(PC), pc);
        check.due(what + ": steps", yard.state(STEPS), steps);
    }

    private static LinkYard at(int address, int... words) {
        int[] items = new int[words.length * 3];
        for (int k = 0; k < words.length; k++) {
            items[3 * k] = Op.WORD;
            items[3 * k + 2] = words[k];
        }
        return Op.linkedAt(address, items);
    }

    private static void registersAre(String what, LinkYard yard, int... wanted) {
        for (int r = 0; r < 8; r++) {
            check.due(what + ": register " + r, yard.state(r), r < wanted.length ? wanted[r] : 0);
        }
    }

    /** "or NOTHING (nothing changes) if nothing is linked": before the first link, and after one that failed. */
    private static void nothingIsLinked() {
        Supplier<LinkYard> failed = () -> {
            LinkYard yard = Op.linkedAt(0, Op.OUT, 0, 0, Op.HALT, 0, 0);
            yard.run();
            Op.put(yard, 0, Op.JUMP, 0, 15);
            yard.link();
            return yard;
        };
        check.due("a new one: run()", new LinkYard().run(), LinkYard.NOTHING);
        check.due("a failed link: run()", failed.get().run(), LinkYard.NOTHING);
        Seen.unchanged(check, "run() of nothing", LinkYard::new, LinkYard::run);
        Seen.unchanged(check, "run() of nothing", failed, LinkYard::run);
    }

    /** "RUNNING begins at the entry": wherever it lies, 0 and 255 among them. */
    private static void beginsAtTheEntry() {
        for (int entry : new int[] {0, 1, 100, 254, 255}) {
            runs("HALT at " + entry, Op.linkedAt(entry, Op.HALT, 0, 0), LinkYard.DONE, entry, 1);
        }
        runs("an entry behind the image", Op.linkedAt(256), LinkYard.WILD, 256, 0);
        runs("an entry where nothing lies", Op.linkedAt(0), LinkYard.ILLEGAL, 0, 0);
    }

    /** "with the image as linked, all registers 0, no output": each time. */
    private static void beginsAnew() {
        Supplier<LinkYard> once = () -> {
            LinkYard yard = Op.linkedAt(0, Op.OUT, 1, 0, Op.ADD, 7, 7, Op.LA, 2, 5, Op.LI, 1, 77, Op.STORE, 1, 2, Op.ADD, 7, 1,
                Op.ADD, 0, 1, Op.HALT, 0, 0, Op.LABEL, 5, Op.LOCAL, Op.SPACE, 1, 0);
            yard.run();
            return yard;
        };
        Supplier<LinkYard> twice = () -> {
            LinkYard yard = once.get();
            check.due("the second run()", yard.run(), LinkYard.DONE);
            return yard;
        };
        Seen.same(check, "the second run", Seen.run(twice), Seen.run(once));
        registersAre("the first run", once.get(), 77, 77, 8, 0, 0, 0, 0, 77);
        check.due("it did change its image", once.get().memory(8), 77);
    }

    /** A program that comes to its rest, at address 5, after 298 steps. */
    private static LinkYard after298(int... rest) {
        LinkYard yard = Op.program(Op.LI, 1, 99, Op.LI, 2, 1, Op.LABEL, 1, Op.LOCAL, Op.SUB, 1, 2, Op.JZ, 1, 2, Op.JUMP, 0, 1, Op.LABEL, 2, Op.LOCAL);
        Op.put(yard, 0, rest);
        yard.link();
        return yard;
    }

    /** "If 300 STEPS are done it ends: LIMIT. Else a step": HALT may be the 300th, not the 301st. */
    private static void haltAtTheLimit() {
        runs("HALT is step 299", after298(Op.HALT, 0, 0), LinkYard.DONE, 5, 299);
        runs("HALT is step 300", after298(Op.OUT, 0, 0, Op.HALT, 0, 0), LinkYard.DONE, 6, 300);
        LinkYard late = after298(Op.OUT, 0, 0, Op.OUT, 0, 0, Op.HALT, 0, 0);
        runs("HALT would be step 301", late, LinkYard.LIMIT, 7, 300);
        check.due("step 300 was done", late.state(OUTS), 2);
        LinkYard later = after298(Op.OUT, 0, 0, Op.OUT, 0, 0, Op.OUT, 0, 0);
        runs("step 301 is not done", later, LinkYard.LIMIT, 7, 300);
        check.due("its OUT is not there", later.state(OUTS), 2);
    }

    /** After 300 steps it is LIMIT, whatever the next step would have been; after 299 it is that. */
    private static void limitBeforeOtherEnds() {
        int away = Op.code(Op.JUMP, 0, false, -32768);
        runs("ILLEGAL after 299", after298(Op.OUT, 0, 0, Op.WORD, 0, 0), LinkYard.ILLEGAL, 6, 299);
        runs("ILLEGAL after 300", after298(Op.OUT, 0, 0, Op.OUT, 0, 0, Op.WORD, 0, 0), LinkYard.LIMIT, 7, 300);
        runs("WILD after 299", after298(Op.WORD, 0, away), LinkYard.WILD, 5 - 32768, 299);
        runs("WILD after 300", after298(Op.OUT, 0, 0, Op.WORD, 0, away), LinkYard.LIMIT, 6 - 32768, 300);
    }

    /** A loop is ended where it is, however many words it has. */
    private static void endlessLoop() {
        runs("a loop of one", Op.linkedAt(9, Op.JUMP, 0, 0), LinkYard.LIMIT, 9, 300);
        runs("a loop of two", Op.linkedAt(9, Op.OUT, 0, 0, Op.JUMP, 0, 0), LinkYard.LIMIT, 9, 300);
        LinkYard seven = Op.linkedAt(9, Op.OUT, 0, 0, Op.OUT, 0, 0, Op.OUT, 0, 0, Op.OUT, 0, 0, Op.OUT, 0, 0, Op.OUT, 0, 0, Op.JUMP, 0, 0);
        runs("a loop of seven", seven, LinkYard.LIMIT, 9 + 300 % 7, 300);
        check.due("its OUTs", seven.state(OUTS), 300 - 300 / 7);
    }

    /** "WILD if PC ... is not 0..255": 0 and 255 are not. */
    private static void firstAndLastAddress() {
        runs("long to 0", at(20, Op.code(Op.JUMP, 0, true, 5), 0), LinkYard.ILLEGAL, 0, 1);
        runs("long to 255", at(20, Op.code(Op.JUMP, 0, true, 5), 255), LinkYard.ILLEGAL, 255, 1);
        runs("by 255", at(0, Op.code(Op.JUMP, 0, false, 255)), LinkYard.ILLEGAL, 255, 1);
        runs("by -255", at(255, Op.code(Op.JUMP, 0, false, -255)), LinkYard.ILLEGAL, 0, 1);
        runs("RET to 255", Op.linkedAt(0, Op.LI, 7, 255, Op.RET, 0, 0), LinkYard.ILLEGAL, 255, 2);
    }

    /** "WILD if PC ... is not 0..255": by JUMP, JZ, CALL and RET, short and long, just outside and far outside. */
    private static void pcOutside() {
        for (int op : new int[] {Op.JUMP, Op.JZ, Op.CALL}) {
            for (int to : new int[] {-1, 256, MIN, MAX}) {
                LinkYard yard = at(20, Op.code(op, 0, true, 5), to);
                runs("long op " + op + " to " + to, yard, LinkYard.WILD, to, 1);
                check.due("the LINK", yard.state(7), op == Op.CALL ? 22 : 0);
            }
            for (int n : new int[] {-21, 236, -32768, 32767}) {
                LinkYard yard = at(20, Op.code(op, 0, false, n));
                runs("op " + op + " by " + n, yard, LinkYard.WILD, 20 + n, 1);
                check.due("the LINK", yard.state(7), op == Op.CALL ? 21 : 0);
            }
        }
        for (int to : new int[] {-1, 256, MIN, MAX}) {
            LinkYard yard = Op.linkedAt(0, Op.LI, 7, to, Op.RET, 0, 0);
            runs("RET to " + to, yard, LinkYard.WILD, to, 2);
            check.due("the LINK", yard.state(7), to);
        }
    }

    /** "the next PC is 1 (LONG: 2) more": behind the last word that is 256. */
    private static void runsOverTheEnd() {
        runs("an ADD at 255", Op.linkedAt(255, Op.ADD, 0, 0), LinkYard.WILD, 256, 1);
        runs("a long LI at 254", Op.linkedAt(254, Op.LI, 0, MAX), LinkYard.WILD, 256, 1);
        runs("a long LI at 253", Op.linkedAt(253, Op.LI, 0, MAX, Op.HALT, 0, 0), LinkYard.DONE, 255, 2);
        runs("a JZ at 255 that does not jump", Op.linkedAt(254, Op.LI, 0, 1, Op.JZ, 0, 0), LinkYard.WILD, 256, 2);
    }

    /** "ILLEGAL if op is none of 1 to 14": of the 32 that 5 bits can tell. */
    private static void ops() {
        for (int op = 0; op < 32; op++) {
            LinkYard yard = at(3, Op.code(op, 0, false, 0), Op.code(Op.HALT, 0, false, 0));
            if (op < 1 || op > 14) {
                runs("op " + op, yard, LinkYard.ILLEGAL, 3, 0);
            } else {
                check.due("op " + op + " is legal", yard.run() != LinkYard.ILLEGAL || yard.state(PC) != 3, true);
                check.due("op " + op + " is a step", yard.state(STEPS) >= 1, true);
            }
        }
    }

    /** "op is its bits 24 to 28, a its bits 20 to 22, LONG its bit 16": bits 29 to 31, 23 and 17 to 19 say nothing. */
    private static void bitsThatSayNothing() {
        for (int bit : new int[] {17, 18, 19, 23, 29, 30, 31}) {
            LinkYard yard = at(0, Op.code(Op.LI, 5, false, 7) | 1 << bit, Op.code(Op.OUT, 5, false, 0) | 1 << bit, Op.code(Op.HALT, 0, false, 0) | 1 << bit);
            runs("bit " + bit, yard, LinkYard.DONE, 2, 3);
            check.due("bit " + bit + ": the output", yard.state(FIRST), 7);
        }
        LinkYard all = at(0, Op.code(Op.LI, 7, false, -1) | 0xE08E0000, Op.code(Op.HALT, 7, false, -1) | 0xE08E0000);
        runs("all of them", all, LinkYard.DONE, 1, 2);
        registersAre("all of them", all, 0, 0, 0, 0, 0, 0, 0, -1);
    }

    /** "its low 16 bits as a signed number n". */
    private static void signedLowBits() {
        for (int n : new int[] {0, 1, 32767, -32768, -1}) {
            for (int op : new int[] {Op.LI, Op.LA}) {
                LinkYard yard = at(0, Op.code(op, 3, false, n), Op.code(Op.HALT, 0, false, 0));
                runs("op " + op + " with n " + n, yard, LinkYard.DONE, 1, 2);
                registersAre("op " + op + " with n " + n, yard, 0, 0, 0, n);
            }
        }
    }

    /** "register b n & 7": whatever the other bits of n are. */
    private static void registerOfLowBits() {
        for (int n : new int[] {6, 14, -2, 32766, -32762}) {
            LinkYard yard = Op.linkedAt(0, Op.LI, 6, 50, Op.LI, 1, 8, Op.WORD, 0, Op.code(Op.ADD, 1, false, n), Op.HALT, 0, 0);
            runs("ADD with n " + n, yard, LinkYard.DONE, 3, 4);
            registersAre("ADD with n " + n, yard, 0, 58, 0, 0, 0, 0, 50);
        }
        LinkYard last = Op.linkedAt(0, Op.LI, 7, 50, Op.WORD, 0, Op.code(Op.ADD, 0, false, -1), Op.WORD, 0, Op.code(Op.SUB, 7, false, 8), Op.HALT, 0, 0);
        runs("registers 7 and 0", last, LinkYard.DONE, 3, 4);
        registersAre("registers 7 and 0", last, 50);
    }

    /** "value v = n or, if LONG, the word behind it": LONG makes each op two words long, also one without v. */
    private static void wordBehindALongOne() {
        for (int value : new int[] {MIN, -1, 0, MAX}) {
            LinkYard yard = at(0, Op.code(Op.LI, 2, true, 9), value, Op.code(Op.LA, 3, true, 9), value, Op.code(Op.HALT, 0, false, 0));
            runs("long with " + value, yard, LinkYard.DONE, 4, 3);
            registersAre("long with " + value, yard, 0, 0, value, value);
        }
        LinkYard others = at(0, Op.code(Op.LI, 1, false, 6), Op.code(Op.ADD, 1, true, 1), 0, Op.code(Op.OUT, 1, true, 0), 0, Op.code(Op.HALT, 0, true, 0), 0);
        runs("long ones without v", others, LinkYard.DONE, 5, 4);
        check.due("long ones without v: the output", others.state(FIRST), 12);
    }

    /** "WILD if ... the word behind a LONG one ... is not 0..255": at 255, for each op, HALT too. */
    private static void wordBehindTheLast() {
        for (int op = 1; op <= 14; op++) {
            LinkYard yard = at(255, Op.code(op, 3, true, 0));
            runs("long op " + op + " at 255", yard, LinkYard.WILD, 255, 0);
            registersAre("long op " + op + " at 255", yard);
            check.due("long op " + op + " at 255: OUTs", yard.state(OUTS), 0);
            check.due("long op " + op + " at 255: memory(0)", yard.memory(0), 0);
        }
        LinkYard fits = at(254, Op.code(Op.LI, 3, true, 0), -9);
        runs("long LI at 254", fits, LinkYard.WILD, 256, 1);
        registersAre("long LI at 254", fits, 0, 0, 0, -9);
        runs("long HALT at 254", at(254, Op.code(Op.HALT, 0, true, 0)), LinkYard.DONE, 254, 1);
    }

    private static int computed(int op, int a, int b) {
        LinkYard yard = Op.linkedAt(0, Op.LI, 1, a, Op.LI, 2, b, op, 1, 2, Op.HALT, 0, 0);
        check.due("op " + op + ": run()", yard.run(), LinkYard.DONE);
        check.due("op " + op + ": register b stays", yard.state(2), b);
        return yard.state(1);
    }

    /** ADD, SUB and MUL go around at the ends of what an int holds. */
    private static void wrapAround() {
        check.due("MAX + 1", computed(Op.ADD, MAX, 1), MIN);
        check.due("MIN + -1", computed(Op.ADD, MIN, -1), MAX);
        check.due("MIN + MIN", computed(Op.ADD, MIN, MIN), 0);
        check.due("MIN - 1", computed(Op.SUB, MIN, 1), MAX);
        check.due("MAX - -1", computed(Op.SUB, MAX, -1), MIN);
        check.due("0 - MIN", computed(Op.SUB, 0, MIN), MIN);
        check.due("65536 * 65536", computed(Op.MUL, 65536, 65536), 0);
        check.due("65536 * 32768", computed(Op.MUL, 65536, 32768), MIN);
        check.due("MIN * -1", computed(Op.MUL, MIN, -1), MIN);
        check.due("MAX * MAX", computed(Op.MUL, MAX, MAX), 1);
    }

    /** "LESS a = 1 if a < b, else 0": not if they are equal, and by sign, not by what their difference comes to. */
    private static void less() {
        check.due("4 < 5", computed(Op.LESS, 4, 5), 1);
        check.due("5 < 5", computed(Op.LESS, 5, 5), 0);
        check.due("6 < 5", computed(Op.LESS, 6, 5), 0);
        check.due("MIN < MAX", computed(Op.LESS, MIN, MAX), 1);
        check.due("MAX < MIN", computed(Op.LESS, MAX, MIN), 0);
        check.due("-1 < 0", computed(Op.LESS, -1, 0), 1);
        check.due("MIN < MIN", computed(Op.LESS, MIN, MIN), 0);
        LinkYard self = Op.linkedAt(0, Op.LI, 1, 5, Op.LESS, 1, 1, Op.HALT, 0, 0);
        self.run();
        check.due("a register and itself", self.state(1), 0);
    }

    /** "LOAD a = the word at address b", "STORE the word at address b = a": at 0 and at 255. */
    private static void loadAndStoreEnds() {
        LinkYard yard = Op.linkedAt(10, Op.LI, 1, 255, Op.STORE, 1, 1, Op.LI, 2, MIN, Op.STORE, 2, 0, Op.LOAD, 3, 1, Op.LOAD, 4, 0, Op.HALT, 0, 0);
        runs("both ends", yard, LinkYard.DONE, 18, 7);
        registersAre("both ends", yard, 0, 255, MIN, 255, MIN);
        check.due("memory(0)", yard.memory(0), MIN);
        check.due("memory(255)", yard.memory(255), 255);
        check.due("memory(1)", yard.memory(1), 0);
        check.due("memory(254)", yard.memory(254), 0);
        check.due("word(0) as linked", yard.word(0), 0);
        check.due("word(255) as linked", yard.word(255), 0);
        check.due("no OUT", yard.state(OUTS), 0);
        LinkYard same = Op.linkedAt(0, Op.LI, 1, 3, Op.LOAD, 1, 1, Op.HALT, 0, 0, Op.WORD, 0, 90);
        runs("LOAD by its own register", same, LinkYard.DONE, 2, 3);
        registersAre("LOAD by its own register", same, 0, 90);
        check.due("LOAD by its own register: memory(90)", same.memory(90), 0);
    }

    /** "WILD if ... an address of LOAD or STORE is not 0..255". */
    private static void loadAndStoreOutside() {
        for (int op : new int[] {Op.LOAD, Op.STORE}) {
            for (int outside : new int[] {-1, 256, MIN, MAX}) {
                LinkYard yard = Op.linkedAt(0, Op.LI, 1, outside, Op.LI, 2, 5, op, 2, 1, Op.HALT, 0, 0);
                runs("op " + op + " at " + outside, yard, LinkYard.WILD, outside == -1 ? 2 : 3, 2);
                registersAre("op " + op + " at " + outside, yard, 0, outside, 5);
                check.due("op " + op + " at " + outside + ": memory(0)", yard.memory(0), yard.word(0));
                check.due("op " + op + " at " + outside + ": memory(255)", yard.memory(255), 0);
            }
        }
    }

    /** "JUMP PC = own address + n": n may be 0; LONG: v, whatever n is. */
    private static void jumpByZero() {
        runs("by 0", at(7, Op.code(Op.JUMP, 0, false, 0)), LinkYard.LIMIT, 7, 300);
        runs("LONG to itself", at(7, Op.code(Op.JUMP, 0, true, 3), 7), LinkYard.LIMIT, 7, 300);
        runs("by -1 and 1", at(6, Op.code(Op.JUMP, 0, false, 1), Op.code(Op.JUMP, 0, false, -1)), LinkYard.LIMIT, 6, 300);
    }

    /** "JZ the same if a is 0": and for nothing else; else the next PC, 2 more if LONG. */
    private static void jumpIfZeroAlone() {
        for (int value : new int[] {0, 1, -1, MIN, MAX, 65536}) {
            int start = value >= -128 && value <= 127 ? 1 : 2;
            LinkYard yard = Op.linkedAt(0, Op.LI, 1, value, Op.WORD, 0, Op.code(Op.JZ, 1, false, 2), Op.HALT, 0, 0, Op.HALT, 0, 0);
            runs("JZ of " + value, yard, LinkYard.DONE, start + (value == 0 ? 2 : 1), 3);
            LinkYard two = Op.linkedAt(0, Op.LI, 1, value, Op.WORD, 0, Op.code(Op.JZ, 1, true, 1), Op.WORD, 0, 50, Op.HALT, 0, 0);
            runs("long JZ of " + value, two, value == 0 ? LinkYard.ILLEGAL : LinkYard.DONE, value == 0 ? 50 : start + 2, value == 0 ? 2 : 3);
        }
    }

    /** "CALL the same, and the LINK becomes what the next PC would have been": also where that is 256. */
    private static void linkOfCalls() {
        LinkYard near = at(0, Op.code(Op.CALL, 3, false, 2), 0, Op.code(Op.HALT, 0, false, 0));
        runs("CALL", near, LinkYard.DONE, 2, 2);
        registersAre("CALL", near, 0, 0, 0, 0, 0, 0, 0, 1);
        LinkYard far = at(0, Op.code(Op.CALL, 3, true, 1), 3, 0, Op.code(Op.HALT, 0, false, 0));
        runs("long CALL", far, LinkYard.DONE, 3, 2);
        registersAre("long CALL", far, 0, 0, 0, 0, 0, 0, 0, 2);
        LinkYard last = at(255, Op.code(Op.CALL, 0, false, -255));
        runs("CALL at 255", last, LinkYard.ILLEGAL, 0, 1);
        check.due("CALL at 255: the LINK", last.state(7), 256);
        LinkYard lastLong = at(254, Op.code(Op.CALL, 0, true, 0), 0);
        runs("long CALL at 254", lastLong, LinkYard.ILLEGAL, 0, 1);
        check.due("long CALL at 254: the LINK", lastLong.state(7), 256);
    }

    /** "RET PC = the LINK": register 7, also if no CALL was made. */
    private static void retWithoutCall() {
        runs("RET at first", Op.linkedAt(0, Op.RET, 0, 0), LinkYard.LIMIT, 0, 300);
        runs("RET to 0", Op.linkedAt(1, Op.RET, 0, 0), LinkYard.ILLEGAL, 0, 1);
        runs("RET by LI", Op.linkedAt(0, Op.LI, 7, 3, Op.RET, 0, 0, Op.WORD, 0, 0, Op.HALT, 0, 0), LinkYard.DONE, 3, 3);
    }

    private static LinkYard outputs(int count) {
        LinkYard yard = Op.linkedAt(0, Op.LI, 1, count, Op.LI, 2, 1, Op.LABEL, 1, Op.LOCAL, Op.OUT, 1, 0, Op.SUB, 1, 2, Op.JZ, 1, 2, Op.JUMP, 0, 1,
            Op.LABEL, 2, Op.LOCAL, Op.HALT, 0, 0);
        check.due(count + " OUTs: run()", yard.run(), LinkYard.DONE);
        return yard;
    }

    /** "OUT adds a to the output (the first 40 are kept)"; "how many OUTs" counts all of them. */
    private static void outputsKept() {
        for (int count : new int[] {1, 39, 40, 41, 42, 70}) {
            LinkYard yard = outputs(count);
            check.due(count + " OUTs: state(10)", yard.state(OUTS), count);
            for (int k = -1; k <= 45; k++) {
                int want = k < 0 ? count : k < 40 && k < count ? count - k : 0;
                check.due(count + " OUTs: output " + k, yard.state(FIRST + k), want);
            }
        }
    }

    /** A run without OUT has no output; nor is there any left of a run before. */
    private static void noOutput() {
        LinkYard yard = outputs(41);
        yard.clear(0);
        Op.put(yard, 0, Op.LABEL, 0, Op.GLOBAL, Op.HALT, 0, 0);
        yard.link();
        runs("no OUT", yard, LinkYard.DONE, 0, 1);
        for (int what = OUTS; what <= FIRST + 41; what++) {
            check.due("no OUT: state(" + what + ")", yard.state(what), 0);
        }
    }

    /** "nothing changes at that step": what ends WILD or ILLEGAL leaves all as the step before did. */
    private static void nothingChangesAtTheEnd() {
        int[] ends = {Op.code(Op.LOAD, 1, false, 2), Op.code(Op.STORE, 1, false, 2), Op.code(Op.STORE, 2, true, 2), 0, Op.code(15, 1, false, 2), Op.code(31, 7, true, 1)};
        for (int k = 0; k < ends.length; k++) {
            int[] items = {Op.LI, 1, 11, Op.LI, 2, 300, Op.LI, 7, 77, Op.OUT, 1, 0, Op.WORD, 0, ends[k], Op.HALT, 0, 0};
            LinkYard yard = Op.linkedAt(0, items);
            runs("end " + k, yard, k < 3 ? LinkYard.WILD : LinkYard.ILLEGAL, 5, 4);
            registersAre("end " + k, yard, 0, 11, 300, 0, 0, 0, 0, 77);
            check.due("end " + k + ": OUTs", yard.state(OUTS), 1);
            check.due("end " + k + ": output 0", yard.state(FIRST), 11);
            LinkYard notRun = Op.linkedAt(0, items);
            for (int at = 0; at < 256; at++) {
                check.due("end " + k + ": memory(" + at + ")", yard.memory(at), notRun.word(at));
            }
        }
    }

    /** "WILD for PC comes first, then ILLEGAL, then WILD for others." */
    private static void orderOfEnds() {
        runs("ILLEGAL, and LONG at 255", at(255, Op.code(15, 0, true, 0)), LinkYard.ILLEGAL, 255, 0);
        runs("op 0, and LONG at 255", at(255, Op.code(0, 0, true, 0)), LinkYard.ILLEGAL, 255, 0);
        runs("PC outside, no op there", at(0, Op.code(Op.JUMP, 0, false, 256)), LinkYard.WILD, 256, 1);
        LinkYard both = at(253, Op.code(Op.LI, 1, true, 0), -1, Op.code(Op.LOAD, 2, true, 1));
        runs("LOAD outside, and LONG at 255", both, LinkYard.WILD, 255, 1);
    }

    /** "also where it changes itself": the next word, and the one that is being done. */
    private static void changesItself() {
        LinkYard next = Op.linkedAt(0, Op.LOAD, 1, 0, Op.LI, 2, 5, Op.LA, 3, 2, Op.STORE, 4, 3, Op.LABEL, 2, Op.LOCAL, Op.HALT, 0, 0, Op.HALT, 0, 0);
        runs("HALT becomes 0", next, LinkYard.ILLEGAL, 4, 4);
        check.due("memory(4)", next.memory(4), 0);
        check.due("word(4)", next.word(4), 0x0E000000);
        LinkYard own = Op.linkedAt(0, Op.STORE, 1, 0, Op.HALT, 0, 0);
        runs("its own word", own, LinkYard.DONE, 1, 2);
        check.due("memory(0)", own.memory(0), 0);
        runs("again, as linked", own, LinkYard.DONE, 1, 2);
    }

    /** The second word of a long one is taken when its step is done. */
    private static void changesTheWordBehind() {
        LinkYard yard = Op.linkedAt(0, Op.LI, 1, 5, Op.LI, 2, -9, Op.STORE, 2, 1, Op.ADD, 0, 0, Op.LI, 3, 1000, Op.HALT, 0, 0);
        runs("the word behind", yard, LinkYard.DONE, 6, 6);
        check.due("what LI brings", yard.state(3), -9);
        LinkYard self = Op.linkedAt(0, Op.LI, 1, 3, Op.LI, 2, 77, Op.WORD, 0, Op.code(Op.STORE, 2, true, 1), Op.WORD, 0, 5, Op.HALT, 0, 0);
        runs("its own word behind", self, LinkYard.DONE, 4, 4);
        check.due("memory(3)", self.memory(3), 77);
    }

    /** A word that was stored where nothing lay is run like any other, up to the last one. */
    private static void runsWhereNothingLay() {
        LinkYard yard = Op.linkedAt(0, Op.LI, 1, Op.code(Op.HALT, 0, false, 0), Op.LI, 7, 255, Op.STORE, 1, 7, Op.RET, 0, 0);
        runs("a HALT stored at 255", yard, LinkYard.DONE, 255, 5);
        check.due("memory(255)", yard.memory(255), 0x0E000000);
        check.due("word(255)", yard.word(255), 0);
    }

    /** "what 0 to 7 a register, 8 PC, 9 steps, 10 OUTs, 11 + k output k; 0 otherwise". */
    private static void stateEnds() {
        LinkYard yard = Op.linkedAt(3, Op.LI, 0, 20, Op.LI, 7, 27, Op.OUT, 7, 0, Op.OUT, 0, 0, Op.HALT, 0, 0);
        yard.run();
        int[] wanted = {20, 0, 0, 0, 0, 0, 0, 27, 7, 5, 2, 27, 20, 0};
        for (int what = 0; what < wanted.length; what++) {
            check.due("state(" + what + ")", yard.state(what), wanted[what]);
        }
        for (int what : new int[] {-1, 50, 51, MIN, MAX}) {
            check.due("state(" + what + ")", yard.state(what), 0);
        }
        LinkYard full = outputs(45);
        check.due("state(50), output 39", full.state(50), 6);
        check.due("state(51), output 40", full.state(51), 0);
        check.due("state(-1)", full.state(-1), 0);
    }

    /** "or if there was none": before the first run, also if there is an image; and after a new link. */
    private static void stateWithoutRun() {
        Supplier<LinkYard> linked = () -> Op.linkedAt(40, Op.LI, 1, 5, Op.OUT, 1, 0, Op.HALT, 0, 0);
        Supplier<LinkYard> anew = () -> {
            LinkYard yard = linked.get();
            yard.run();
            yard.link();
            return yard;
        };
        Seen.run(linked).forEach((call, answer) -> check.due("linked, not run: " + call, answer, 0));
        Seen.run(anew).forEach((call, answer) -> check.due("linked anew: " + call, answer, 0));
    }

    /** "The word at an address after the latest run; 0 if there is no such address". */
    private static void memoryEnds() {
        LinkYard yard = Op.program(Op.HALT, 0, 0);
        Op.space(yard, 0, 254);
        Op.put(yard, 0, Op.WORD, 0, -1);
        yard.link();
        yard.run();
        check.due("memory(0)", yard.memory(0), 0x0E000000);
        check.due("memory(254)", yard.memory(254), 0);
        check.due("memory(255)", yard.memory(255), -1);
        for (int at : new int[] {-1, 256, MIN, MAX}) {
            check.due("memory(" + at + ")", yard.memory(at), 0);
        }
    }

    /** "or no run": the image is not told by memory before it was run. */
    private static void memoryWithoutRun() {
        LinkYard yard = Op.linkedAt(0, Op.HALT, 0, 0);
        check.due("before the run", yard.memory(0), 0);
        yard.run();
        check.due("after the run", yard.memory(0), 0x0E000000);
        yard.role(0, Op.UNUSED);
        check.due("till the next link", yard.memory(0), 0x0E000000);
        yard.link();
        check.due("after a link that failed", yard.memory(0), 0);
    }

    /** "state(8) after DONE is the address of the HALT; after LIMIT that of the step that would have been the next one." */
    private static void pcAtTheEnd() {
        runs("DONE", Op.linkedAt(0, Op.JUMP, 0, 1, Op.SPACE, 9, 0, Op.LABEL, 1, Op.LOCAL, Op.HALT, 0, 0), LinkYard.DONE, 10, 2);
        runs("DONE at a long HALT", at(0, Op.code(Op.HALT, 0, true, 0), 9), LinkYard.DONE, 0, 1);
        runs("LIMIT", Op.linkedAt(0, Op.OUT, 0, 0, Op.OUT, 0, 0, Op.OUT, 0, 0, Op.OUT, 0, 0, Op.OUT, 0, 0, Op.OUT, 0, 0, Op.JUMP, 0, 0), LinkYard.LIMIT, 6, 300);
        runs("LIMIT outside", after298(Op.LI, 7, -5, Op.RET, 0, 0), LinkYard.LIMIT, -5, 300);
        runs("ILLEGAL", Op.linkedAt(0, Op.OUT, 0, 0, Op.WORD, 0, 0), LinkYard.ILLEGAL, 1, 1);
        runs("WILD", Op.linkedAt(0, Op.OUT, 0, 0, Op.LI, 1, -1, Op.LOAD, 1, 1), LinkYard.WILD, 2, 2);
    }
}
