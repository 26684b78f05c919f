/** Promises 6 to 8: link, culprit, listed. */
public final class LinkTest {
    private static final Check check = new Check();

    public static void main(String[] args) {
        archiveOrder();
        archiveChains();
        localsAskForNothing();
        faulty();
        faultyAmongOthers();
        faultyFirstFound();
        duplicate();
        undefined();
        orderOfFaults();
        large();
        weakAndGlobal();
        earlierIsNoMore();
        snapshots();
        nothingStale();
        check.end();
    }

    private static void result(String what, LinkYard yard, int answer, int culprit) {
        check.due(what + ": link()", yard.link(), answer);
        check.due(what + ": culprit()", yard.culprit(), culprit);
    }

    private static void listIs(String what, LinkYard yard, int... modules) {
        for (int k = 0; k < 8; k++) {
            check.due(what + ": listed(" + k + ")", yard.listed(k), k < modules.length ? modules[k] : -1);
        }
        check.due(what + ": listed(-1)", yard.listed(-1), -1);
    }

    private static void archiveOrder() {
        LinkYard yard = new LinkYard();
        Op.put(yard, 5, Op.LABEL, 0, Op.GLOBAL, Op.CALL, 0, 9, Op.CALL, 0, 3);
        Op.put(yard, 1, Op.WORD, 0, 1);
        Op.put(yard, 0, Op.LABEL, 9, Op.GLOBAL);
        Op.put(yard, 4, Op.LABEL, 3, Op.WEAK);
        Op.put(yard, 3, Op.LABEL, 3, Op.GLOBAL);
        Op.put(yard, 2, Op.LABEL, 12, Op.GLOBAL);
        yard.role(5, Op.TAKEN);
        yard.role(1, Op.TAKEN);
        for (int module : new int[] {0, 2, 3, 4}) {
            yard.role(module, Op.ARCHIVE);
        }
        result("least symbol first", yard, LinkYard.OK, -1);
        listIs("least symbol first", yard, 1, 5, 3, 0);
        yard.role(3, Op.UNUSED);
        result("a weak one is enough", yard, LinkYard.OK, -1);
        listIs("a weak one is enough", yard, 1, 5, 4, 0);
    }

    private static void archiveChains() {
        LinkYard yard = new LinkYard();
        Op.put(yard, 3, Op.LABEL, 0, Op.WEAK, Op.JUMP, 0, 8);
        Op.put(yard, 2, Op.LABEL, 8, Op.GLOBAL, Op.JZ, 1, 2, Op.LA, 1, 15);
        Op.put(yard, 1, Op.LABEL, 2, Op.GLOBAL, Op.ADDRESS, 1, 0);
        Op.put(yard, 0, Op.LABEL, 1, Op.GLOBAL);
        Op.put(yard, 4, Op.LABEL, 15, Op.GLOBAL);
        Op.put(yard, 5, Op.LABEL, 8, Op.GLOBAL);
        for (int module = 0; module < 6; module++) {
            yard.role(module, Op.ARCHIVE);
        }
        result("all from the archive", yard, LinkYard.OK, -1);
        listIs("all from the archive", yard, 3, 2, 1, 0, 4);
    }

    private static void localsAskForNothing() {
        LinkYard yard = Op.program(Op.JUMP, 0, 4, Op.LABEL, 4, Op.LOCAL);
        Op.put(yard, 1, Op.LABEL, 4, Op.GLOBAL);
        yard.role(1, Op.ARCHIVE);
        result("a local label", yard, LinkYard.OK, -1);
        listIs("a local label", yard, 0);
        Op.put(yard, 2, Op.LA, 0, 4);
        yard.role(2, Op.TAKEN);
        result("another's local label", yard, LinkYard.OK, -1);
        listIs("another's local label", yard, 0, 2, 1);
        LinkYard alone = new LinkYard();
        Op.put(alone, 0, Op.LABEL, 0, Op.LOCAL, Op.JUMP, 0, 0);
        alone.role(0, Op.TAKEN);
        result("a local entry", alone, LinkYard.UNDEFINED, 0);
    }

    private static void faulty() {
        int[][] kinds = {{0, 0}, {0, 1}, {1, 1}, {1, 2}, {2, 2}, {2, 0}};
        for (int[] pair : kinds) {
            LinkYard yard = Op.program();
            Op.put(yard, 3, Op.LABEL, 6, pair[0], Op.SECTION, Op.DATA, 0, Op.LABEL, 6, pair[1]);
            result("unused", yard, LinkYard.OK, -1);
            yard.role(3, Op.ARCHIVE);
            result("not fetched", yard, LinkYard.OK, -1);
            yard.role(3, Op.TAKEN);
            result("taken", yard, LinkYard.FAULTY, 3);
            listIs("faulty", yard);
            yard.clear(3);
            result("cleared", yard, LinkYard.OK, -1);
        }
    }

    private static void faultyAmongOthers() {
        LinkYard yard = Op.program(Op.LABEL, 4, Op.LOCAL, Op.HALT, 0, 0, Op.LABEL, 6, Op.WEAK, Op.LABEL, 4, Op.LOCAL, Op.LABEL, 7, Op.LOCAL);
        result("others between and behind", yard, LinkYard.FAULTY, 0);
    }

    private static void faultyFirstFound() {
        LinkYard yard = new LinkYard();
        Op.put(yard, 4, Op.LABEL, 0, Op.GLOBAL, Op.JUMP, 0, 2, Op.JUMP, 0, 1);
        Op.put(yard, 0, Op.LABEL, 2, Op.GLOBAL, Op.LABEL, 2, Op.GLOBAL);
        Op.put(yard, 3, Op.LABEL, 1, Op.GLOBAL, Op.LABEL, 5, Op.LOCAL, Op.LABEL, 5, Op.LOCAL);
        yard.role(4, Op.TAKEN);
        yard.role(0, Op.ARCHIVE);
        yard.role(3, Op.ARCHIVE);
        result("the first that goes to the list", yard, LinkYard.FAULTY, 3);
        Op.put(yard, 4, Op.LABEL, 7, Op.LOCAL, Op.LABEL, 7, Op.LOCAL);
        result("in the list at first", yard, LinkYard.FAULTY, 4);
        yard.role(5, Op.TAKEN);
        Op.put(yard, 5, Op.LABEL, 3, Op.LOCAL, Op.LABEL, 3, Op.LOCAL);
        result("the least taken one", yard, LinkYard.FAULTY, 4);
        yard.clear(4);
        result("another taken one", yard, LinkYard.FAULTY, 5);
    }

    private static void duplicate() {
        LinkYard yard = Op.program(Op.LABEL, 9, Op.GLOBAL, Op.LABEL, 3, Op.GLOBAL);
        Op.put(yard, 1, Op.LABEL, 9, Op.GLOBAL);
        Op.put(yard, 2, Op.LABEL, 3, Op.GLOBAL);
        result("alone", yard, LinkYard.OK, -1);
        yard.role(1, Op.TAKEN);
        result("not used, but twice", yard, LinkYard.DUPLICATE, 9);
        listIs("not OK", yard);
        yard.role(2, Op.TAKEN);
        result("the least symbol", yard, LinkYard.DUPLICATE, 3);
        yard.role(1, Op.ARCHIVE);
        yard.role(2, Op.ARCHIVE);
        result("not fetched", yard, LinkYard.OK, -1);
    }

    private static void undefined() {
        LinkYard yard = new LinkYard();
        yard.role(2, Op.TAKEN);
        Op.put(yard, 2, Op.LA, 0, 11, Op.SECTION, Op.DATA, 0, Op.ADDRESS, 7, 0);
        result("no entry", yard, LinkYard.UNDEFINED, 0);
        Op.put(yard, 2, Op.SECTION, Op.TEXT, 0, Op.LABEL, 0, Op.WEAK);
        result("the least symbol", yard, LinkYard.UNDEFINED, 7);
        yard.layout(0, true);
        Op.put(yard, 2, Op.LABEL, 11, Op.LOCAL);
        result("also in a unit that would not stay", yard, LinkYard.UNDEFINED, 7);
        Op.put(yard, 1, Op.LABEL, 7, Op.LOCAL);
        yard.role(1, Op.TAKEN);
        result("another's local label does not help", yard, LinkYard.UNDEFINED, 7);
        for (int op : new int[] {Op.JUMP, Op.JZ, Op.CALL, Op.LA, Op.ADDRESS}) {
            LinkYard one = op == Op.ADDRESS ? Op.program(op, 5, 0) : Op.program(op, 0, 5);
            result("a use by op " + op, one, LinkYard.UNDEFINED, 5);
        }
    }

    private static void orderOfFaults() {
        LinkYard yard = new LinkYard();
        Op.put(yard, 0, Op.LABEL, 8, Op.GLOBAL, Op.JUMP, 0, 1);
        Op.put(yard, 1, Op.LABEL, 8, Op.GLOBAL);
        Op.put(yard, 2, Op.LABEL, 4, Op.LOCAL, Op.LABEL, 4, Op.LOCAL);
        Op.space(yard, 3, 300);
        for (int module = 0; module < 4; module++) {
            yard.role(module, Op.TAKEN);
        }
        result("all at once", yard, LinkYard.FAULTY, 2);
        yard.clear(2);
        result("duplicate before undefined", yard, LinkYard.DUPLICATE, 8);
        yard.clear(1);
        result("undefined before large", yard, LinkYard.UNDEFINED, 0);
        Op.put(yard, 1, Op.LABEL, 0, Op.GLOBAL, Op.LABEL, 1, Op.GLOBAL);
        result("large", yard, LinkYard.LARGE, -1);
        listIs("large", yard);
        check.due("run() when large", yard.run(), LinkYard.NOTHING);
        yard.clear(3);
        result("nothing wrong", yard, LinkYard.OK, -1);
    }

    private static void large() {
        LinkYard yard = Op.program();
        Op.space(yard, 0, 256);
        result("256 words", yard, LinkYard.OK, -1);
        check.due("size(1)", yard.size(1), 256);
        yard.layout(1, false);
        result("256 words from 1 on", yard, LinkYard.LARGE, -1);
        LinkYard aligned = Op.program();
        Op.space(aligned, 0, 254);
        Op.put(aligned, 0, Op.ALIGN, 8, 0);
        result("aligned up to 256", aligned, LinkYard.OK, -1);
        Op.put(aligned, 0, Op.ALIGN, 3, 0);
        result("aligned beyond 256", aligned, LinkYard.LARGE, -1);
        LinkYard grown = Op.program(Op.JUMP, 0, 1);
        Op.space(grown, 0, 255);
        Op.put(grown, 0, Op.LABEL, 1, Op.LOCAL);
        result("large only after a round", grown, LinkYard.LARGE, -1);
        LinkYard stripped = Op.program(Op.SECTION, Op.DATA, 0);
        Op.space(stripped, 0, 300);
        result("with what is not used", stripped, LinkYard.LARGE, -1);
        stripped.layout(0, true);
        result("without what is not used", stripped, LinkYard.OK, -1);
    }

    private static void weakAndGlobal() {
        LinkYard yard = Op.program(Op.LA, 1, 5);
        Op.put(yard, 4, Op.LABEL, 5, Op.WEAK, Op.WORD, 0, 44);
        Op.put(yard, 2, Op.LABEL, 5, Op.WEAK, Op.WORD, 0, 22);
        Op.put(yard, 5, Op.LABEL, 5, Op.GLOBAL, Op.WORD, 0, 55);
        yard.role(4, Op.TAKEN);
        yard.role(2, Op.TAKEN);
        result("two weak ones", yard, LinkYard.OK, -1);
        check.due("the first one", yard.address(5), yard.where(2, 0));
        yard.role(5, Op.TAKEN);
        result("a global one beside", yard, LinkYard.OK, -1);
        check.due("the global one", yard.address(5), yard.where(5, 0));
        check.due("its use", yard.word(0) & 0xFFFF, yard.where(5, 0));
        yard.role(2, Op.ARCHIVE);
        yard.role(5, Op.UNUSED);
        result("the order of the list", yard, LinkYard.OK, -1);
        check.due("the one in the list", yard.address(5), yard.where(4, 0));
        LinkYard late = new LinkYard();
        Op.put(late, 0, Op.LABEL, 6, Op.WEAK, Op.LABEL, 3, Op.GLOBAL);
        Op.put(late, 4, Op.LABEL, 6, Op.WEAK, Op.LABEL, 0, Op.GLOBAL, Op.JUMP, 0, 3);
        late.role(0, Op.ARCHIVE);
        late.role(4, Op.TAKEN);
        result("by the list, not by numbers", late, LinkYard.OK, -1);
        check.due("first in the list", late.address(6), late.where(4, 0));
    }

    private static void earlierIsNoMore() {
        LinkYard yard = Op.program(Op.LI, 1, 7, Op.OUT, 1, 0, Op.HALT, 0, 0);
        yard.link();
        yard.run();
        check.due("state(11)", yard.state(11), 7);
        yard.link();
        check.due("state(11) after a link", yard.state(11), 0);
        check.due("state(1) after a link", yard.state(1), 0);
        check.due("state(9) after a link", yard.state(9), 0);
        check.due("memory(0) after a link", yard.memory(0), 0);
        check.due("word(0) after a link", yard.word(0), 0x01100007);
        yard.run();
        yard.role(0, Op.UNUSED);
        check.due("still linked", yard.run(), LinkYard.DONE);
        result("a link that fails", yard, LinkYard.UNDEFINED, 0);
        check.due("run() then", yard.run(), LinkYard.NOTHING);
        check.due("state(1) then", yard.state(1), 0);
        check.due("memory(0) then", yard.memory(0), 0);
        check.due("word(0) then", yard.word(0), -1);
        check.due("word(200) then", yard.word(200), -1);
        check.due("address(0) then", yard.address(0), -1);
        check.due("where(0, 0) then", yard.where(0, 0), -1);
        check.due("listed(0) then", yard.listed(0), -1);
        for (int what = 0; what < 4; what++) {
            check.due("size(" + what + ") then", yard.size(what), -1);
        }
        yard.role(0, Op.TAKEN);
        check.due("culprit() before the next link", yard.culprit(), 0);
        result("and again", yard, LinkYard.OK, -1);
    }

    private static void snapshots() {
        LinkYard yard = Op.program(Op.LI, 1, 7, Op.LABEL, 5, Op.GLOBAL, Op.OUT, 1, 0, Op.HALT, 0, 0);
        Op.put(yard, 1, Op.WORD, 0, 5);
        yard.role(1, Op.TAKEN);
        yard.layout(20, false);
        yard.link();
        yard.clear(0);
        Op.put(yard, 0, Op.LABEL, 5, Op.GLOBAL, Op.SPACE, 9, 0);
        yard.item(1, Op.WORD, 0, 6);
        yard.role(1, Op.UNUSED);
        yard.layout(3, true);
        listIs("as linked then", yard, 0, 1);
        check.due("address(0)", yard.address(0), 20);
        check.due("address(5)", yard.address(5), 21);
        check.due("where(0, 2)", yard.where(0, 2), 21);
        check.due("where(0, 4)", yard.where(0, 4), 22);
        check.due("where(0, 5)", yard.where(0, 5), -1);
        check.due("where(1, 0)", yard.where(1, 0), 23);
        check.due("where(1, 1)", yard.where(1, 1), -1);
        check.due("word(20)", yard.word(20), 0x01100007);
        check.due("word(23)", yard.word(23), 5);
        check.due("size(0)", yard.size(0), 24);
        check.due("size(1)", yard.size(1), 24);
        check.due("run()", yard.run(), LinkYard.DONE);
        check.due("state(11)", yard.state(11), 7);
        check.due("culprit()", yard.culprit(), -1);
    }

    /** What was there at an earlier link, and is no more, must not be seen by the next one. */
    private static void nothingStale() {
        LinkYard cleared = Op.program(Op.LABEL, 4, Op.LOCAL, Op.LABEL, 6, Op.WEAK, Op.LABEL, 7, Op.WEAK, Op.JUMP, 0, 9);
        result("at first", cleared, LinkYard.UNDEFINED, 9);
        cleared.clear(0);
        Op.put(cleared, 0, Op.LABEL, 0, Op.GLOBAL);
        result("the JUMP is no more", cleared, LinkYard.OK, -1);
        Op.put(cleared, 0, Op.JUMP, 0, 4);
        result("the local label is no more", cleared, LinkYard.UNDEFINED, 4);
        cleared.clear(0);
        Op.put(cleared, 0, Op.LABEL, 0, Op.GLOBAL, Op.JUMP, 0, 6);
        result("the weak label is no more", cleared, LinkYard.UNDEFINED, 6);

        LinkYard left = Op.program(Op.HALT, 0, 0);
        Op.put(left, 1, Op.JUMP, 0, 9, Op.LABEL, 5, Op.WEAK);
        left.role(1, Op.TAKEN);
        result("a second module", left, LinkYard.UNDEFINED, 9);
        left.role(1, Op.UNUSED);
        result("it is not used any more", left, LinkYard.OK, -1);
        check.due("nor its label", left.address(5), -1);

        LinkYard weaks = Op.program(Op.JUMP, 0, 4);
        Op.put(weaks, 1, Op.LABEL, 4, Op.WEAK, Op.LABEL, 5, Op.WEAK);
        weaks.role(1, Op.ARCHIVE);
        result("the first of two weak labels", weaks, LinkYard.OK, -1);
        listIs("the first of two weak labels", weaks, 0, 1);
    }
}
