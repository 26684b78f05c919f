import java.util.function.Supplier;

/** The boundary cases of the head of the document, of promises 1 to 5 and of the table of items. */
public final class EdgesOfItemsTest {
    private static final Check check = new Check();
    private static final int MIN = Integer.MIN_VALUE, MAX = Integer.MAX_VALUE;

    public static void main(String[] args) {
        newObject();
        lastOf512Calls();
        fullAndEmptyFor512Calls();
        everyCallEnds();
        modulesOfItem();
        opsOfItem();
        fullModule();
        fullModuleAndWrongOperand();
        symbols();
        registers();
        otherRanges();
        anyInt();
        operandsNotUsed();
        clearOfEmptyAndFull();
        clearOfNone();
        clearLeavesRoleAndLayout();
        roles();
        rolesOutOfRange();
        origins();
        originsOutOfRange();
        check.end();
    }

    /** A yard in the middle of its work: linked, run, changed since, one module full and one in the archive. */
    private static LinkYard busy() {
        LinkYard yard = Op.program(Op.LI, 1, 300, Op.OUT, 1, 0, Op.CALL, 0, 3, Op.HALT, 0, 0);
        Op.put(yard, 2, Op.LABEL, 3, Op.GLOBAL, Op.STORE, 1, 0, Op.RET, 0, 0);
        yard.role(2, Op.ARCHIVE);
        for (int k = 0; k < 24; k++) {
            Op.put(yard, 5, Op.WORD, 0, k - 3);
        }
        yard.role(5, Op.TAKEN);
        yard.layout(9, false);
        yard.link();
        yard.run();
        Op.put(yard, 0, Op.WORD, 0, 77, Op.SECTION, Op.DATA, 0, Op.WORD, 0, 78);
        yard.layout(11, true);
        return yard;
    }

    /** A yard whose latest link failed. */
    private static LinkYard failed() {
        LinkYard yard = Op.program(Op.JUMP, 0, 6);
        yard.link();
        return yard;
    }

    private static void refused(String call, Supplier<LinkYard> made, int module, int op, int a, int b) {
        check.due(call, made.get().item(module, op, a, b), -1);
        Seen.unchanged(check, call, made, yard -> yard.item(module, op, a, b));
    }

    /** "Empty modules, all unused; origin 0, no stripping; nothing is linked or run." */
    private static void newObject() {
        Seen.linked(LinkYard::new).forEach((call, answer) -> check.due("new: " + call, answer, -1));
        Seen.run(LinkYard::new).forEach((call, answer) -> check.due("new: " + call, answer, 0));
        check.due("new: run()", new LinkYard().run(), LinkYard.NOTHING);
        for (int module = 0; module < 6; module++) {
            LinkYard yard = new LinkYard();
            check.due("new: clear(" + module + ")", yard.clear(module), 0);
            check.due("new: item of " + module, yard.item(module, Op.LABEL, 0, Op.GLOBAL), 0);
            check.due("new: link() as " + module + " is unused", yard.link(), LinkYard.UNDEFINED);
            Op.put(yard, module, Op.SECTION, Op.DATA, 0, Op.WORD, 0, 5);
            yard.role(module, Op.TAKEN);
            check.due("new: link()", yard.link(), LinkYard.OK);
            check.due("new: the origin", yard.size(0), 0);
            check.due("new: nothing is stripped", yard.size(1), 1);
        }
    }

    /** "An object is used for at most 512 calls after it has been made": the 512th is answered as the document says. */
    private static void lastOf512Calls() {
        LinkYard yard = Op.program(Op.LI, 3, 21, Op.ADD, 3, 3, Op.OUT, 3, 0, Op.HALT, 0, 0);
        check.due("call 7, run()", yard.run(), LinkYard.NOTHING);
        for (int call = 8; call <= 508; call += 2) {
            check.due("call " + call + ", link()", yard.link(), LinkYard.OK);
            check.due("call " + (call + 1) + ", run()", yard.run(), LinkYard.DONE);
        }
        check.due("call 510, link()", yard.link(), LinkYard.OK);
        check.due("call 511, run()", yard.run(), LinkYard.DONE);
        check.due("call 512, state(11)", yard.state(11), 42);
    }

    /** "An object is used for at most 512 calls": a module may be filled and emptied all that time. */
    private static void fullAndEmptyFor512Calls() {
        LinkYard yard = new LinkYard();
        for (int round = 0; round < 19; round++) {
            for (int k = 0; k < 24; k++) {
                check.due("round " + round + ", item " + k, yard.item(5, Op.WORD, 0, k), k);
            }
            check.due("round " + round + ", item 24", yard.item(5, Op.WORD, 0, 24), -1);
            check.due("round " + round + ", clear(5)", yard.clear(5), 24);
        }
        check.due("call 495, clear(5)", yard.clear(5), 0);
        for (int call = 496; call <= 512; call++) {
            check.due("call " + call + ", item", yard.item(5, Op.WORD, 0, 0), call - 496);
        }
    }

    /** LANGUAGE.md: "No call may ever throw or fail to end, for any arguments in any state", also behind the 512th. */
    private static void everyCallEnds() {
        int[] odd = {MIN, MIN + 1, -257, -65, -25, -2, -1, 0, 1, 2, 5, 6, 7, 8, 15, 16, 17, 19, 20, 23, 24, 50, 51, 100, 101, 255, 256, 257, MAX - 1, MAX};
        for (LinkYard yard : new LinkYard[] {new LinkYard(), busy(), failed()}) {
            for (int a : odd) {
                for (int b : odd) {
                    yard.where(a, b);
                    yard.role(a, b);
                    yard.item(a, b, 3, 2);
                    yard.item(2, a, b, a);
                    yard.item(3, a, 1, b);
                }
                yard.listed(a);
                yard.address(a);
                yard.word(a);
                yard.size(a);
                yard.state(a);
                yard.memory(a);
                yard.layout(a, a % 2 == 0);
                yard.link();
                yard.culprit();
                yard.run();
                yard.clear(a);
            }
        }
    }

    /** "MODULES 0..5"; item answers "-1, and nothing changes, if there is no such module". */
    private static void modulesOfItem() {
        LinkYard yard = new LinkYard();
        check.due("item of module 0", yard.item(0, Op.WORD, 0, 0), 0);
        check.due("item of module 5", yard.item(5, Op.WORD, 0, 0), 0);
        for (int module : new int[] {-1, 6, MIN, MAX}) {
            refused("item of module " + module, EdgesOfItemsTest::busy, module, Op.WORD, 0, 0);
            refused("item of module " + module, LinkYard::new, module, Op.LABEL, 0, Op.GLOBAL);
        }
    }

    /** "-1, and nothing changes, if there is no such ... op": they are 0 to 19. */
    private static void opsOfItem() {
        LinkYard yard = new LinkYard();
        check.due("op 0", yard.item(0, Op.LABEL, 0, 0), 0);
        check.due("op 19", yard.item(0, Op.SECTION, 0, 0), 1);
        for (int op : new int[] {-1, 20, MIN, MAX}) {
            refused("op " + op, EdgesOfItemsTest::busy, 0, op, 0, 0);
            refused("op " + op, EdgesOfItemsTest::busy, 0, op, 2, 2);
        }
    }

    /** "lists of at most 24 ITEMS"; "-1, and nothing changes, if ... it has 24". */
    private static void fullModule() {
        for (int module = 0; module < 6; module++) {
            LinkYard yard = new LinkYard();
            for (int k = 0; k < 24; k++) {
                check.due("item " + k + " of " + module, yard.item(module, Op.WORD, 0, k), k);
            }
            check.due("item 24 of " + module, yard.item(module, Op.WORD, 0, 24), -1);
            check.due("item 24 of " + module + " again", yard.item(module, Op.LABEL, 0, Op.GLOBAL), -1);
            int beside = (module + 1) % 6;
            check.due("the one beside is still empty", yard.clear(beside), 0);
            check.due("and takes items", yard.item(beside, Op.LABEL, 0, Op.GLOBAL), 0);
            yard.role(module, Op.TAKEN);
            yard.role(beside, Op.TAKEN);
            check.due("link()", yard.link(), LinkYard.OK);
            check.due("the size of a full module", yard.size(1), 24);
            check.due("its last item", yard.where(module, 23), 23);
            check.due("its last word", yard.word(23), 23);
            check.due("there is no item 24", yard.where(module, 24), -1);
        }
        refused("an item more", EdgesOfItemsTest::busy, 5, Op.WORD, 0, 1);
    }

    /** Several reasons to refuse at once are one refusal. */
    private static void fullModuleAndWrongOperand() {
        refused("a wrong item more", EdgesOfItemsTest::busy, 5, Op.LI, 8, 1);
        refused("no module and no op", EdgesOfItemsTest::busy, 6, 20, -1, -1);
    }

    /** Both ends of an operand's range are taken; what lies just outside, and far outside, is refused. */
    private static void range(int op, boolean first, int least, int greatest) {
        String name = "op " + op + (first ? ", a " : ", b ");
        int other = op == Op.ALIGN ? 2 : 0;
        for (int good : new int[] {least, greatest}) {
            LinkYard yard = new LinkYard();
            Op.put(yard, 1, Op.HALT, 0, 0);
            check.due(name + good, yard.item(1, op, first ? good : other, first ? other : good), 1);
            check.due(name + good + ": it is there", yard.clear(1), 2);
        }
        for (int wrong : new int[] {least - 1, greatest + 1, MIN, MAX}) {
            refused(name + wrong, EdgesOfItemsTest::busy, 1, op, first ? wrong : other, first ? other : wrong);
        }
    }

    /** "a symbol is one of 0..15": in LABEL, JUMP, JZ, CALL, LA and ADDRESS. */
    private static void symbols() {
        range(Op.LABEL, true, 0, 15);
        range(Op.JUMP, false, 0, 15);
        range(Op.JZ, false, 0, 15);
        range(Op.CALL, false, 0, 15);
        range(Op.LA, false, 0, 15);
        range(Op.ADDRESS, true, 0, 15);
    }

    /** "a register one of 0..7": in LI, the six that have two, JZ, LA and OUT. */
    private static void registers() {
        range(Op.LI, true, 0, 7);
        for (int op = Op.ADD; op <= Op.STORE; op++) {
            range(op, true, 0, 7);
            range(op, false, 0, 7);
        }
        range(Op.JZ, true, 0, 7);
        range(Op.LA, true, 0, 7);
        range(Op.OUT, true, 0, 7);
    }

    /** "b of 0: 0..2", "b (-64..64) more", "SPACE a (0..16)", "ALIGN a (2..8)", "SECTION a (0 text, 1 data)". */
    private static void otherRanges() {
        range(Op.LABEL, false, 0, 2);
        range(Op.ADDRESS, false, -64, 64);
        range(Op.SPACE, true, 0, 16);
        range(Op.ALIGN, true, 2, 8);
        range(Op.SECTION, true, 0, 1);
    }

    /** "LI register a, b (any int)", "WORD b (any int)". */
    private static void anyInt() {
        for (int value : new int[] {MIN, MIN + 1, -1, 0, 1, MAX - 1, MAX}) {
            LinkYard yard = Op.program();
            check.due("LI " + value, yard.item(0, Op.LI, 7, value), 1);
            check.due("WORD " + value, yard.item(0, Op.WORD, 0, value), 2);
            yard.link();
            check.due("the word of WORD " + value, yard.word(yard.where(0, 2)), value);
            yard.run();
            check.due("what LI " + value + " brings", yard.state(7), value);
        }
    }

    /** "an operand that is used is out of its range": one that is not used may be any number, and says nothing. */
    private static void operandsNotUsed() {
        int[][] plain = {{Op.JUMP, 0, 0}, {Op.CALL, 0, 0}, {Op.RET, 0, 0}, {Op.HALT, 0, 0}, {Op.WORD, 0, 0}, {Op.OUT, 0, 0}, {Op.SPACE, 1, 0},
            {Op.ALIGN, 2, 0}, {Op.SECTION, 0, 0}};
        boolean[] firstIsFree = {true, true, true, true, true, false, false, false, false};
        boolean[] secondIsFree = {false, false, true, true, false, true, true, true, true};
        for (int odd : new int[] {MIN, -1, 99, MAX}) {
            for (int k = 0; k < plain.length; k++) {
                int op = plain[k][0];
                int a = firstIsFree[k] ? odd : plain[k][1];
                int b = secondIsFree[k] ? odd : plain[k][2];
                LinkYard yard = Op.program();
                check.due("op " + op + " with " + odd, yard.item(0, op, a, b), 1);
                yard.link();
                LinkYard without = Op.program(plain[k]);
                without.link();
                check.due("the word of op " + op + " with " + odd, yard.word(0), without.word(0));
                check.due("the size of op " + op + " with " + odd, yard.size(1), without.size(1));
            }
        }
    }

    /** "Empties a module: how many items it had": none, one, 23, 24. */
    private static void clearOfEmptyAndFull() {
        for (int module = 0; module < 6; module++) {
            for (int had : new int[] {0, 1, 23, 24}) {
                LinkYard yard = new LinkYard();
                for (int k = 0; k < had; k++) {
                    Op.put(yard, module, Op.WORD, 0, k);
                }
                check.due("clear(" + module + ") of " + had, yard.clear(module), had);
                check.due("clear(" + module + ") again", yard.clear(module), 0);
                check.due("the next item", yard.item(module, Op.WORD, 0, 9), 0);
            }
        }
        LinkYard others = new LinkYard();
        for (int module = 0; module < 6; module++) {
            for (int k = 0; k <= module; k++) {
                Op.put(others, module, Op.WORD, 0, k);
            }
        }
        for (int module : new int[] {3, 0, 5, 2, 4, 1}) {
            check.due("clear(" + module + ") leaves the others", others.clear(module), module + 1);
        }
        Seen.unchanged(check, "clear of an empty one", EdgesOfItemsTest::busy, yard -> yard.clear(3));
    }

    /** "-1 if there is none". */
    private static void clearOfNone() {
        for (int module : new int[] {-1, 6, MIN, MAX}) {
            check.due("clear(" + module + ")", busy().clear(module), -1);
            Seen.unchanged(check, "clear(" + module + ")", EdgesOfItemsTest::busy, yard -> yard.clear(module));
        }
    }

    /** clear empties a module, and no more: neither its role nor the layout nor what is linked or run. */
    private static void clearLeavesRoleAndLayout() {
        Supplier<LinkYard> emptied = () -> {
            LinkYard yard = busy();
            yard.clear(0);
            yard.clear(2);
            yard.clear(5);
            return yard;
        };
        Seen.same(check, "after clear", Seen.linked(emptied), Seen.linked(EdgesOfItemsTest::busy));
        Seen.same(check, "after clear", Seen.run(emptied), Seen.run(EdgesOfItemsTest::busy));
        LinkYard yard = emptied.get();
        Op.put(yard, 0, Op.LABEL, 0, Op.GLOBAL, Op.HALT, 0, 0, Op.SECTION, Op.DATA, 0, Op.WORD, 0, 1);
        check.due("link()", yard.link(), LinkYard.OK);
        check.due("the role stays", yard.listed(0), 0);
        check.due("that of another too", yard.listed(1), 5);
        check.due("the origin stays", yard.address(0), 11);
        check.due("stripping stays", yard.size(1), 12);
    }

    /** "A module is UNUSED, TAKEN or in the ARCHIVE (how 0 to 2) from now on: true". */
    private static void roles() {
        for (int module : new int[] {0, 5}) {
            for (int how = 0; how <= 2; how++) {
                LinkYard yard = new LinkYard();
                Op.put(yard, module, Op.LABEL, 0, Op.GLOBAL, Op.HALT, 0, 0);
                Op.put(yard, 3, Op.WORD, 0, 8);
                yard.role(3, Op.TAKEN);
                check.due("role(" + module + ", " + how + ")", yard.role(module, how), true);
                check.due("link() at role " + how, yard.link(), how == Op.UNUSED ? LinkYard.UNDEFINED : LinkYard.OK);
                int first = how == Op.UNUSED ? -1 : how == Op.TAKEN ? Math.min(module, 3) : 3;
                check.due("listed(0) at role " + how, yard.listed(0), first);
                check.due("role(" + module + ", 0)", yard.role(module, Op.UNUSED), true);
                check.due("link() when unused", yard.link(), LinkYard.UNDEFINED);
            }
        }
        Supplier<LinkYard> changed = () -> {
            LinkYard yard = busy();
            yard.role(0, Op.UNUSED);
            yard.role(3, Op.TAKEN);
            return yard;
        };
        Seen.same(check, "after role", Seen.linked(changed), Seen.linked(EdgesOfItemsTest::busy));
        Seen.same(check, "after role", Seen.run(changed), Seen.run(EdgesOfItemsTest::busy));
    }

    /** "false, and nothing changes, if one is out of range". */
    private static void rolesOutOfRange() {
        int[][] wrong = {{-1, 1}, {6, 1}, {MIN, 1}, {MAX, 1}, {0, -1}, {0, 3}, {5, -1}, {5, 3}, {2, MIN}, {2, MAX}, {6, 3}, {-1, -1}};
        for (int[] one : wrong) {
            String call = "role(" + one[0] + ", " + one[1] + ")";
            check.due(call, busy().role(one[0], one[1]), false);
            Seen.unchanged(check, call, EdgesOfItemsTest::busy, yard -> yard.role(one[0], one[1]));
        }
    }

    /** "The ORIGIN (0..100), and whether to strip, from now on: true". */
    private static void origins() {
        for (int origin : new int[] {0, 1, 99, 100}) {
            for (boolean strip : new boolean[] {false, true}) {
                LinkYard yard = Op.program(Op.HALT, 0, 0, Op.SECTION, Op.DATA, 0, Op.WORD, 0, 9);
                check.due("layout(" + origin + ", " + strip + ")", yard.layout(origin, strip), true);
                yard.link();
                check.due("address(0) at origin " + origin, yard.address(0), origin);
                check.due("the end at origin " + origin, yard.size(1), origin + (strip ? 1 : 2));
                check.due("layout(50, " + !strip + ")", yard.layout(50, !strip), true);
                check.due("address(0) till the next link", yard.address(0), origin);
                yard.link();
                check.due("address(0) then", yard.address(0), 50);
                check.due("the end then", yard.size(1), strip ? 52 : 51);
            }
        }
    }

    /** "false, and nothing changes, if it is out of range": neither the origin nor the stripping. */
    private static void originsOutOfRange() {
        for (int origin : new int[] {-1, 101, MIN, MAX}) {
            for (boolean strip : new boolean[] {false, true}) {
                String call = "layout(" + origin + ", " + strip + ")";
                check.due(call, busy().layout(origin, strip), false);
                Seen.unchanged(check, call, EdgesOfItemsTest::busy, yard -> yard.layout(origin, strip));
                Seen.unchanged(check, call, EdgesOfItemsTest::failed, yard -> yard.layout(origin, strip));
            }
        }
    }
}
