/** Promises 2 to 5: item, clear, role, layout. */
public final class ModulesTest {
    private static final Check check = new Check();
    private static final int FAR = Integer.MAX_VALUE;
    private static final int LOW = Integer.MIN_VALUE;

    public static void main(String[] args) {
        numbers();
        ranges();
        freeOperands();
        refusalsChangeNothing();
        clearing();
        roles();
        layouts();
        check.end();
    }

    private static void numbers() {
        LinkYard yard = new LinkYard();
        for (int module = 0; module < 6; module++) {
            for (int k = 0; k < 24; k++) {
                check.due("item " + k, yard.item(module, Op.RET, 0, 0), k);
            }
            check.due("item 24", yard.item(module, Op.RET, 0, 0), -1);
        }
        for (int module : new int[] {-1, 6, FAR, LOW}) {
            check.due("item of module " + module, yard.item(module, Op.RET, 0, 0), -1);
        }
        LinkYard other = new LinkYard();
        for (int op : new int[] {-1, 20, 31, FAR, LOW}) {
            check.due("op " + op, other.item(0, op, 0, 0), -1);
        }
        for (int op = 0; op < 20; op++) {
            check.due("op " + op, other.item(0, op, op == Op.ALIGN ? 2 : 0, 0), op);
        }
    }

    /** Tries an operand at both ends of its range and just outside of it. */
    private static void range(int op, boolean first, int least, int greatest) {
        int other = first ? 0 : op == Op.ALIGN ? 2 : 0;
        int[] tried = {least, greatest, least - 1, greatest + 1, FAR, LOW};
        LinkYard yard = new LinkYard();
        int count = 0;
        for (int k = 0; k < tried.length; k++) {
            boolean fits = tried[k] >= least && tried[k] <= greatest;
            int got = first ? yard.item(2, op, tried[k], other) : yard.item(2, op, other, tried[k]);
            check.due("op " + op + (first ? " a " : " b ") + tried[k], got, fits ? count : -1);
            count += fits ? 1 : 0;
        }
    }

    private static void ranges() {
        range(Op.LABEL, true, 0, 15);
        range(Op.LABEL, false, 0, 2);
        range(Op.LI, true, 0, 7);
        for (int op = Op.ADD; op <= Op.STORE; op++) {
            range(op, true, 0, 7);
            range(op, false, 0, 7);
        }
        range(Op.JUMP, false, 0, 15);
        range(Op.JZ, true, 0, 7);
        range(Op.JZ, false, 0, 15);
        range(Op.CALL, false, 0, 15);
        range(Op.LA, true, 0, 7);
        range(Op.LA, false, 0, 15);
        range(Op.OUT, true, 0, 7);
        range(Op.ADDRESS, true, 0, 15);
        range(Op.ADDRESS, false, -64, 64);
        range(Op.SPACE, true, 0, 16);
        range(Op.ALIGN, true, 2, 8);
        range(Op.SECTION, true, 0, 1);
    }

    private static void freeOperands() {
        int[] freeFirst = {Op.JUMP, Op.CALL, Op.RET, Op.HALT, Op.WORD};
        int[] freeSecond = {Op.LI, Op.RET, Op.OUT, Op.HALT, Op.WORD, Op.SPACE, Op.ALIGN, Op.SECTION};
        for (int odd : new int[] {-1, 99, FAR, LOW}) {
            LinkYard yard = new LinkYard();
            for (int k = 0; k < freeFirst.length; k++) {
                check.due("op " + freeFirst[k] + " a " + odd, yard.item(0, freeFirst[k], odd, 0), k);
            }
            for (int k = 0; k < freeSecond.length; k++) {
                int a = freeSecond[k] == Op.ALIGN ? 2 : 0;
                check.due("op " + freeSecond[k] + " b " + odd, yard.item(1, freeSecond[k], a, odd), k);
            }
        }
    }

    private static void refusalsChangeNothing() {
        LinkYard yard = Op.program(Op.WORD, 0, 5);
        yard.item(0, Op.LI, 8, 0);
        yard.item(0, 20, 0, 0);
        check.due("the next number", yard.item(0, Op.WORD, 0, 6), 2);
        check.due("link()", yard.link(), LinkYard.OK);
        check.due("word(0)", yard.word(0), 5);
        check.due("word(1)", yard.word(1), 6);
        check.due("size(1)", yard.size(1), 2);
    }

    private static void clearing() {
        LinkYard yard = Op.program(Op.WORD, 0, 5, Op.WORD, 0, 6);
        check.due("clear(-1)", yard.clear(-1), -1);
        check.due("clear(6)", yard.clear(6), -1);
        check.due("clear(5)", yard.clear(5), 0);
        check.due("clear(0)", yard.clear(0), 3);
        check.due("clear(0) again", yard.clear(0), 0);
        check.due("link() of the emptied", yard.link(), LinkYard.UNDEFINED);
        check.due("item after clear", yard.item(0, Op.LABEL, 0, Op.GLOBAL), 0);
        check.due("the role stays", yard.link(), LinkYard.OK);
        check.due("size(1)", yard.size(1), 0);
        for (int k = 1; k < 24; k++) {
            yard.item(0, Op.RET, 0, 0);
        }
        check.due("clear of a full one", yard.clear(0), 24);
    }

    private static void roles() {
        LinkYard yard = Op.program(Op.HALT, 0, 0);
        int[][] wrong = {{-1, 0}, {6, 0}, {FAR, 1}, {LOW, 1}, {0, -1}, {0, 3}, {0, FAR}, {0, LOW}};
        for (int[] one : wrong) {
            check.due("role(" + one[0] + ", " + one[1] + ")", yard.role(one[0], one[1]), false);
        }
        check.due("link()", yard.link(), LinkYard.OK);
        check.due("role(0, 0)", yard.role(0, Op.UNUSED), true);
        check.due("link() when unused", yard.link(), LinkYard.UNDEFINED);
        check.due("role(0, 2)", yard.role(0, Op.ARCHIVE), true);
        check.due("link() from the archive", yard.link(), LinkYard.OK);
        check.due("listed(0)", yard.listed(0), 0);
        check.due("role(5, 1)", yard.role(5, Op.TAKEN), true);
        check.due("link()", yard.link(), LinkYard.OK);
        check.due("listed(0) is the taken one", yard.listed(0), 5);
        check.due("listed(1)", yard.listed(1), 0);
    }

    private static void layouts() {
        LinkYard yard = Op.program(Op.HALT, 0, 0, Op.SECTION, Op.DATA, 0, Op.WORD, 0, 9);
        check.due("layout(100, true)", yard.layout(100, true), true);
        yard.link();
        check.due("address(0)", yard.address(0), 100);
        check.due("size(1), stripped", yard.size(1), 101);
        for (int origin : new int[] {-1, 101, FAR, LOW}) {
            check.due("layout(" + origin + ")", yard.layout(origin, false), false);
        }
        yard.link();
        check.due("address(0) after refusals", yard.address(0), 100);
        check.due("size(1) after refusals", yard.size(1), 101);
        check.due("layout(0, false)", yard.layout(0, false), true);
        check.due("the linked one stays", yard.address(0), 100);
        yard.link();
        check.due("address(0)", yard.address(0), 0);
        check.due("size(1)", yard.size(1), 2);
    }
}
