import java.util.function.Supplier;

/** The boundary cases of promises 6 to 8, and of FAULTY, LINKING, the CHOSEN label and the order of link's faults. */
public final class EdgesOfLinkTest {
    private static final Check check = new Check();
    private static final int MIN = Integer.MIN_VALUE, MAX = Integer.MAX_VALUE;

    public static void main(String[] args) {
        twoLabelsOfOneSymbol();
        oneLabelOfEachSymbol();
        emptyList();
        emptyModules();
        fullListOfTaken();
        fullListFromArchive();
        leastSymbolFirst();
        leastModuleFirst();
        symbolZeroIsAlwaysAsked();
        usesOfLocalsAskForNothing();
        localsDefineNothing();
        definedByTheList();
        oneUseOfTheListIsEnough();
        oneGlobal();
        twoGlobals();
        sixWeak();
        globalBehindWeak();
        faultyWhereItIsNotAsked();
        faultyFirstFound();
        faultyBeforeOthersGoToTheList();
        duplicateUsedOrNot();
        undefinedLeast();
        firstOfTheFaults();
        largeByOne();
        largeFromTheLastOrigin();
        largeByEachKind();
        largeInALaterRound();
        whatIsThereNow();
        linkedBeforeIsNoMore();
        failedLinkLeavesNothing();
        changedSince();
        culprits();
        culpritTillTheNextLink();
        listedEnds();
        check.end();
    }

    private static void result(String what, LinkYard yard, int answer, int culprit) {
        check.due(what + ": link()", yard.link(), answer);
        check.due(what + ": culprit()", yard.culprit(), culprit);
    }

    private static void listIs(String what, LinkYard yard, int... modules) {
        for (int k = -1; k <= 6; k++) {
            check.due(what + ": listed(" + k + ")", yard.listed(k), k >= 0 && k < modules.length ? modules[k] : -1);
        }
    }

    private static void rolesOf(LinkYard yard, int how, int... modules) {
        for (int module : modules) {
            yard.role(module, how);
        }
    }

    /** "A module is FAULTY if two of its LABELs have the same symbol": the least and the greatest, first and last item. */
    private static void twoLabelsOfOneSymbol() {
        for (int module : new int[] {1, 5}) {
            for (int symbol : new int[] {0, 15}) {
                LinkYard yard = Op.program();
                Op.put(yard, module, Op.LABEL, symbol, Op.LOCAL, Op.LABEL, 7, Op.WEAK);
                for (int k = 2; k < 23; k++) {
                    Op.put(yard, module, Op.WORD, 0, k);
                }
                yard.role(module, Op.TAKEN);
                result("one label", yard, LinkYard.OK, -1);
                Op.put(yard, module, Op.LABEL, symbol, Op.WEAK);
                result("two labels of " + symbol, yard, LinkYard.FAULTY, module);
            }
        }
    }

    /** Labels of different symbols in one module, or of one symbol in different modules, make none FAULTY. */
    private static void oneLabelOfEachSymbol() {
        LinkYard yard = new LinkYard();
        for (int module = 0; module < 6; module++) {
            for (int symbol = 0; symbol < 16; symbol++) {
                Op.put(yard, module, Op.LABEL, symbol, module == 2 ? Op.GLOBAL : module % 2 == 0 ? Op.LOCAL : Op.WEAK);
            }
            yard.role(module, Op.TAKEN);
        }
        result("each symbol once in each module", yard, LinkYard.OK, -1);
        Op.put(yard, 4, Op.LABEL, 15, Op.LOCAL);
        result("and one more", yard, LinkYard.FAULTY, 4);
        yard.clear(4);
        Op.put(yard, 4, Op.LABEL, 3, Op.LOCAL, Op.LABEL, 3, Op.LOCAL, Op.LABEL, 4, Op.LOCAL);
        result("one behind the two", yard, LinkYard.FAULTY, 4);
    }

    /** "The LIST are the taken ones": there may be none, and none in the archive. */
    private static void emptyList() {
        LinkYard yard = new LinkYard();
        Op.put(yard, 4, Op.LABEL, 0, Op.WEAK);
        result("nothing taken", yard, LinkYard.UNDEFINED, 0);
        listIs("nothing taken", yard);
        yard.role(4, Op.ARCHIVE);
        result("the entry from the archive", yard, LinkYard.OK, -1);
        listIs("the entry from the archive", yard, 4);
    }

    /** Taken modules without items are in the list, define nothing and use nothing. */
    private static void emptyModules() {
        LinkYard yard = new LinkYard();
        rolesOf(yard, Op.TAKEN, 0, 1, 2, 3, 4, 5);
        result("six empty modules", yard, LinkYard.UNDEFINED, 0);
        Op.put(yard, 5, Op.LABEL, 0, Op.GLOBAL);
        result("a label alone", yard, LinkYard.OK, -1);
        listIs("a label alone", yard, 0, 1, 2, 3, 4, 5);
        rolesOf(yard, Op.ARCHIVE, 0, 1, 2, 3, 4);
        result("empty ones in the archive", yard, LinkYard.OK, -1);
        listIs("empty ones in the archive", yard, 5);
    }

    /** "The LIST are the taken ones by their numbers at first": all six, in whatever order they were taken. */
    private static void fullListOfTaken() {
        LinkYard yard = new LinkYard();
        Op.put(yard, 3, Op.LABEL, 0, Op.GLOBAL);
        rolesOf(yard, Op.TAKEN, 4, 2, 5, 0, 3, 1);
        result("all taken", yard, LinkYard.OK, -1);
        listIs("all taken", yard, 0, 1, 2, 3, 4, 5);
    }

    /** "As long as there is a symbol ...": till the last module of the archive has come. */
    private static void fullListFromArchive() {
        LinkYard yard = new LinkYard();
        for (int module = 0; module < 6; module++) {
            int symbol = 5 - module;
            Op.put(yard, module, Op.LABEL, symbol, Op.GLOBAL, Op.ADDRESS, symbol + 1, 0);
            yard.role(module, Op.ARCHIVE);
        }
        result("symbol 6 is nowhere", yard, LinkYard.UNDEFINED, 6);
        Op.put(yard, 0, Op.LABEL, 6, Op.WEAK);
        result("each asks for the next", yard, LinkYard.OK, -1);
        listIs("each asks for the next", yard, 5, 4, 3, 2, 1, 0);
    }

    /** "for the least such symbol": after each module that went to the list it is looked for anew. */
    private static void leastSymbolFirst() {
        LinkYard yard = Op.program(Op.CALL, 0, 15, Op.CALL, 0, 5);
        Op.put(yard, 3, Op.LABEL, 5, Op.GLOBAL, Op.CALL, 0, 1);
        Op.put(yard, 1, Op.LABEL, 15, Op.GLOBAL);
        Op.put(yard, 4, Op.LABEL, 1, Op.GLOBAL, Op.CALL, 0, 14);
        Op.put(yard, 5, Op.LABEL, 14, Op.GLOBAL);
        rolesOf(yard, Op.ARCHIVE, 1, 3, 4, 5);
        result("the least symbol", yard, LinkYard.OK, -1);
        listIs("the least symbol", yard, 0, 3, 4, 5, 1);
    }

    /** "the least such module goes to the end of the list": a weak label is as good as a global one. */
    private static void leastModuleFirst() {
        LinkYard yard = new LinkYard();
        Op.put(yard, 2, Op.LABEL, 0, Op.GLOBAL, Op.CALL, 0, 15);
        Op.put(yard, 0, Op.LABEL, 15, Op.LOCAL);
        Op.put(yard, 1, Op.LABEL, 15, Op.WEAK);
        Op.put(yard, 3, Op.LABEL, 15, Op.GLOBAL);
        yard.role(2, Op.TAKEN);
        rolesOf(yard, Op.ARCHIVE, 0, 1, 3);
        result("the least module", yard, LinkYard.OK, -1);
        listIs("the least module", yard, 2, 1);
        yard.role(1, Op.UNUSED);
        result("the next one", yard, LinkYard.OK, -1);
        listIs("the next one", yard, 2, 3);
    }

    /** "a symbol that is 0, or that one of the list uses": 0 is asked for also if nothing uses it, or a local one. */
    private static void symbolZeroIsAlwaysAsked() {
        LinkYard yard = new LinkYard();
        Op.put(yard, 0, Op.LABEL, 0, Op.LOCAL, Op.WORD, 0, 5, Op.JUMP, 0, 0);
        Op.put(yard, 1, Op.LABEL, 0, Op.WEAK, Op.HALT, 0, 0);
        yard.role(0, Op.TAKEN);
        result("a local label of 0", yard, LinkYard.UNDEFINED, 0);
        yard.role(1, Op.ARCHIVE);
        result("0 from the archive", yard, LinkYard.OK, -1);
        listIs("0 from the archive", yard, 0, 1);
        check.due("the entry", yard.address(0), 2);
        check.due("the use of the local label", yard.word(1), 0x0800FFFF);
    }

    /** "that one of the list uses (no local one)". */
    private static void usesOfLocalsAskForNothing() {
        LinkYard yard = Op.program(Op.JUMP, 0, 15, Op.LABEL, 15, Op.LOCAL, Op.HALT, 0, 0);
        Op.put(yard, 1, Op.LABEL, 15, Op.GLOBAL, Op.JUMP, 0, 9);
        yard.role(1, Op.ARCHIVE);
        result("the use of a local label", yard, LinkYard.OK, -1);
        listIs("the use of a local label", yard, 0);
        check.due("no label is chosen", yard.address(15), -1);
    }

    /** "A module DEFINES the symbols of its global and weak labels": a local one helps no other module. */
    private static void localsDefineNothing() {
        LinkYard yard = Op.program(Op.JUMP, 0, 15);
        Op.put(yard, 1, Op.LABEL, 15, Op.LOCAL);
        yard.role(1, Op.ARCHIVE);
        result("a local label in the archive", yard, LinkYard.UNDEFINED, 15);
        yard.role(1, Op.TAKEN);
        result("a local label in the list", yard, LinkYard.UNDEFINED, 15);
        for (int kind : new int[] {Op.GLOBAL, Op.WEAK}) {
            yard.clear(1);
            Op.put(yard, 1, Op.LABEL, 15, kind);
            result("a label of kind " + kind, yard, LinkYard.OK, -1);
        }
    }

    /** "and that none of the list defines": a weak label in the list keeps a global one in the archive. */
    private static void definedByTheList() {
        LinkYard yard = Op.program(Op.JUMP, 0, 7, Op.LABEL, 7, Op.WEAK);
        Op.put(yard, 1, Op.LABEL, 7, Op.GLOBAL);
        yard.role(1, Op.ARCHIVE);
        result("a weak label in the list", yard, LinkYard.OK, -1);
        listIs("a weak label in the list", yard, 0);
        check.due("it is chosen", yard.address(7), 1);
    }

    /** "that one of the list uses": one that has no local label asks, if others have one or not. */
    private static void oneUseOfTheListIsEnough() {
        LinkYard yard = Op.program(Op.JUMP, 0, 7, Op.LABEL, 7, Op.LOCAL);
        Op.put(yard, 5, Op.ADDRESS, 7, 0);
        Op.put(yard, 4, Op.LABEL, 7, Op.GLOBAL);
        yard.role(5, Op.UNUSED);
        yard.role(4, Op.ARCHIVE);
        result("the use of an unused module", yard, LinkYard.OK, -1);
        listIs("the use of an unused module", yard, 0);
        yard.role(5, Op.ARCHIVE);
        result("the use of one in the archive", yard, LinkYard.OK, -1);
        listIs("the use of one in the archive", yard, 0);
        yard.role(5, Op.TAKEN);
        result("the use of one in the list", yard, LinkYard.OK, -1);
        listIs("the use of one in the list", yard, 0, 5, 4);
    }

    /** "The CHOSEN label of a symbol is the global one": beside as many weak ones as there can be. */
    private static void oneGlobal() {
        for (int global = 0; global < 6; global++) {
            LinkYard yard = new LinkYard();
            for (int module = 0; module < 6; module++) {
                Op.put(yard, module, Op.LABEL, 0, module == global ? Op.GLOBAL : Op.WEAK, Op.ADDRESS, 0, 0);
                yard.role(module, Op.TAKEN);
            }
            result("one global of six", yard, LinkYard.OK, -1);
            check.due("the chosen one", yard.address(0), global);
            for (int module = 0; module < 6; module++) {
                check.due("the use in module " + module, yard.word(module), global);
            }
        }
    }

    /** "of several none (DUPLICATE)": two are several, and so are six. */
    private static void twoGlobals() {
        LinkYard yard = Op.program();
        Op.put(yard, 5, Op.LABEL, 0, Op.GLOBAL);
        yard.role(5, Op.TAKEN);
        result("two global ones", yard, LinkYard.DUPLICATE, 0);
        for (int module = 1; module < 5; module++) {
            Op.put(yard, module, Op.LABEL, 0, Op.GLOBAL);
            yard.role(module, Op.TAKEN);
        }
        result("six global ones", yard, LinkYard.DUPLICATE, 0);
        rolesOf(yard, Op.ARCHIVE, 1, 2, 3, 4, 5);
        result("one of the list and five of the archive", yard, LinkYard.OK, -1);
    }

    /** "without one the weak one that comes first in the list". */
    private static void sixWeak() {
        LinkYard yard = new LinkYard();
        for (int module = 0; module < 6; module++) {
            Op.put(yard, module, Op.LABEL, 15, Op.WEAK, Op.WORD, 0, module);
            yard.role(module, Op.TAKEN);
        }
        Op.put(yard, 5, Op.LABEL, 0, Op.GLOBAL, Op.CALL, 0, 9);
        Op.put(yard, 0, Op.LABEL, 9, Op.GLOBAL);
        result("six weak ones", yard, LinkYard.OK, -1);
        check.due("that of module 0", yard.address(15), yard.where(0, 0));
        rolesOf(yard, Op.UNUSED, 1, 2, 3, 4);
        yard.role(0, Op.ARCHIVE);
        result("the least module comes last", yard, LinkYard.OK, -1);
        listIs("the least module comes last", yard, 5, 0);
        check.due("that of module 5", yard.address(15), yard.where(5, 0));
    }

    /** The global label is chosen also if it comes from the archive, behind a weak one of the list. */
    private static void globalBehindWeak() {
        LinkYard yard = Op.program(Op.LABEL, 4, Op.WEAK, Op.LA, 1, 4, Op.JUMP, 0, 3);
        Op.put(yard, 1, Op.LABEL, 3, Op.GLOBAL, Op.HALT, 0, 0, Op.LABEL, 4, Op.GLOBAL);
        yard.role(1, Op.ARCHIVE);
        result("a global one comes in", yard, LinkYard.OK, -1);
        check.due("it is chosen", yard.address(4), 3);
        check.due("it is used", yard.word(0), 0x0C100003);
    }

    /** "FAULTY (a module in the list at first, or that goes to it": one that doesn't go to it is no fault. */
    private static void faultyWhereItIsNotAsked() {
        LinkYard yard = Op.program();
        Op.put(yard, 3, Op.LABEL, 9, Op.GLOBAL, Op.LABEL, 9, Op.GLOBAL);
        result("an unused one", yard, LinkYard.OK, -1);
        yard.role(3, Op.ARCHIVE);
        result("one that stays in the archive", yard, LinkYard.OK, -1);
        Op.put(yard, 0, Op.JUMP, 0, 9);
        result("one that goes to the list", yard, LinkYard.FAULTY, 3);
        yard.clear(0);
        yard.role(0, Op.UNUSED);
        yard.role(3, Op.TAKEN);
        result("one in the list at first", yard, LinkYard.FAULTY, 3);
    }

    /** "of those the first that it is found of": by the order of the list. */
    private static void faultyFirstFound() {
        LinkYard yard = new LinkYard();
        for (int module = 0; module < 6; module++) {
            Op.put(yard, module, Op.LABEL, module, Op.GLOBAL, Op.LABEL, 15, Op.LOCAL, Op.LABEL, 15, Op.LOCAL);
            yard.role(module, Op.TAKEN);
        }
        result("six faulty ones", yard, LinkYard.FAULTY, 0);
        yard.role(0, Op.ARCHIVE);
        result("one goes to the archive", yard, LinkYard.FAULTY, 1);
        rolesOf(yard, Op.UNUSED, 1, 2, 3, 4);
        result("the last one is in the list at first", yard, LinkYard.FAULTY, 5);
        yard.role(5, Op.ARCHIVE);
        result("all in the archive", yard, LinkYard.FAULTY, 0);
    }

    /** "before others go to the list": what would come behind a faulty one is not looked at. */
    private static void faultyBeforeOthersGoToTheList() {
        LinkYard yard = Op.program(Op.CALL, 0, 4, Op.CALL, 0, 8);
        Op.put(yard, 5, Op.LABEL, 4, Op.GLOBAL, Op.LABEL, 4, Op.GLOBAL, Op.CALL, 0, 2);
        Op.put(yard, 1, Op.LABEL, 8, Op.GLOBAL, Op.LABEL, 9, Op.LOCAL, Op.LABEL, 9, Op.LOCAL);
        Op.put(yard, 2, Op.LABEL, 2, Op.GLOBAL, Op.LABEL, 9, Op.LOCAL, Op.LABEL, 9, Op.LOCAL);
        rolesOf(yard, Op.ARCHIVE, 1, 2, 5);
        result("the first that comes", yard, LinkYard.FAULTY, 5);
        yard.clear(5);
        Op.put(yard, 5, Op.LABEL, 4, Op.GLOBAL, Op.CALL, 0, 2);
        result("the second that comes", yard, LinkYard.FAULTY, 2);
        yard.clear(2);
        Op.put(yard, 2, Op.LABEL, 2, Op.GLOBAL);
        result("the third that comes", yard, LinkYard.FAULTY, 1);
    }

    /** "DUPLICATE (a symbol that has several global labels in the list, used or not), ... the least such symbol". */
    private static void duplicateUsedOrNot() {
        LinkYard yard = Op.program(Op.LABEL, 15, Op.GLOBAL);
        Op.put(yard, 1, Op.LABEL, 15, Op.GLOBAL, Op.LABEL, 14, Op.GLOBAL);
        yard.role(1, Op.TAKEN);
        result("15 is not used", yard, LinkYard.DUPLICATE, 15);
        Op.put(yard, 0, Op.LABEL, 14, Op.GLOBAL);
        result("14 is less", yard, LinkYard.DUPLICATE, 14);
        Op.put(yard, 1, Op.LABEL, 0, Op.GLOBAL);
        result("0 is the least", yard, LinkYard.DUPLICATE, 0);
        LinkYard apart = Op.program(Op.LABEL, 9, Op.GLOBAL);
        Op.put(apart, 3, Op.LABEL, 8, Op.GLOBAL);
        Op.put(apart, 4, Op.LABEL, 9, Op.GLOBAL);
        Op.put(apart, 5, Op.LABEL, 7, Op.GLOBAL);
        rolesOf(apart, Op.TAKEN, 3, 4, 5);
        result("others between and behind", apart, LinkYard.DUPLICATE, 9);
        LinkYard local = Op.program(Op.LABEL, 15, Op.GLOBAL);
        Op.put(local, 1, Op.LABEL, 15, Op.LOCAL);
        local.role(1, Op.TAKEN);
        result("a global one and a local one", local, LinkYard.OK, -1);
    }

    /** "UNDEFINED (a symbol that is 0, or that one of the list uses), ... the least such symbol". */
    private static void undefinedLeast() {
        LinkYard yard = Op.program(Op.LABEL, 13, Op.LOCAL, Op.JUMP, 0, 13, Op.JUMP, 0, 15);
        result("15", yard, LinkYard.UNDEFINED, 15);
        Op.put(yard, 5, Op.SECTION, Op.DATA, 0, Op.ADDRESS, 14, 0);
        yard.role(5, Op.TAKEN);
        result("14 is less, in another module", yard, LinkYard.UNDEFINED, 14);
        Op.put(yard, 5, Op.LA, 0, 13);
        result("13 is local in one of the two alone", yard, LinkYard.UNDEFINED, 13);
        yard.clear(0);
        result("0 is the least", yard, LinkYard.UNDEFINED, 0);
    }

    /** "Link answers the first of": FAULTY, DUPLICATE, UNDEFINED, LARGE, whatever the numbers of the culprits are. */
    private static void firstOfTheFaults() {
        LinkYard yard = new LinkYard();
        Op.space(yard, 0, 272);
        Op.put(yard, 1, Op.LABEL, 15, Op.GLOBAL);
        Op.put(yard, 2, Op.LABEL, 15, Op.GLOBAL, Op.JUMP, 0, 3);
        Op.put(yard, 5, Op.LABEL, 1, Op.LOCAL, Op.LABEL, 1, Op.LOCAL);
        rolesOf(yard, Op.TAKEN, 0, 1, 2, 5);
        result("FAULTY first", yard, LinkYard.FAULTY, 5);
        yard.role(5, Op.UNUSED);
        result("then DUPLICATE", yard, LinkYard.DUPLICATE, 15);
        yard.role(1, Op.UNUSED);
        result("then UNDEFINED", yard, LinkYard.UNDEFINED, 0);
        Op.put(yard, 2, Op.LABEL, 0, Op.GLOBAL);
        result("still UNDEFINED", yard, LinkYard.UNDEFINED, 3);
        Op.put(yard, 2, Op.LABEL, 3, Op.LOCAL);
        result("then LARGE", yard, LinkYard.LARGE, -1);
        yard.role(0, Op.UNUSED);
        result("then OK", yard, LinkYard.OK, -1);
    }

    /** "LARGE (the layout would end behind address 256": 256 words are the most that fit. */
    private static void largeByOne() {
        for (int words : new int[] {255, 256, 257}) {
            LinkYard yard = Op.program();
            Op.space(yard, 0, words);
            result(words + " words", yard, words <= 256 ? LinkYard.OK : LinkYard.LARGE, -1);
            check.due(words + " words: size(1)", yard.size(1), words <= 256 ? words : -1);
            check.due(words + " words: run()", yard.run(), words <= 256 ? LinkYard.ILLEGAL : LinkYard.NOTHING);
        }
    }

    /** The end counts from the origin on, also from the greatest one. */
    private static void largeFromTheLastOrigin() {
        for (int words : new int[] {155, 156, 157}) {
            LinkYard yard = Op.program();
            Op.space(yard, 0, words);
            yard.layout(100, false);
            result(words + " words from 100 on", yard, words <= 156 ? LinkYard.OK : LinkYard.LARGE, -1);
            yard.layout(99, false);
            result(words + " words from 99 on", yard, LinkYard.OK, -1);
        }
    }

    /** What makes the layout too large by one: an item of one or two words, an ALIGN, the data; a label does not. */
    private static void largeByEachKind() {
        int[][] last = {{Op.LABEL, 9, Op.LOCAL}, {Op.SECTION, Op.DATA, 0}, {Op.SPACE, 0, 0}, {Op.ALIGN, 8, 0}, {Op.SPACE, 1, 0}, {Op.WORD, 0, 0},
            {Op.HALT, 0, 0}, {Op.LI, 0, 127}, {Op.ALIGN, 3, 0}, {Op.ADDRESS, 0, 0}};
        for (int k = 0; k < last.length; k++) {
            LinkYard yard = Op.program();
            Op.space(yard, 0, 256);
            Op.put(yard, 0, last[k]);
            result("256 words and op " + last[k][0], yard, k < 4 ? LinkYard.OK : LinkYard.LARGE, -1);
        }
        LinkYard two = Op.program();
        Op.space(two, 0, 255);
        Op.put(two, 0, Op.LI, 0, 127);
        result("255 words and a short LI", two, LinkYard.OK, -1);
        two.clear(0);
        Op.put(two, 0, Op.LABEL, 0, Op.GLOBAL);
        Op.space(two, 0, 255);
        Op.put(two, 0, Op.LI, 0, 128);
        result("255 words and a long LI", two, LinkYard.LARGE, -1);
        LinkYard data = Op.program();
        Op.space(data, 0, 200);
        Op.put(data, 1, Op.SECTION, Op.DATA, 0);
        Op.space(data, 1, 57);
        data.role(1, Op.TAKEN);
        result("text and data", data, LinkYard.LARGE, -1);
        data.layout(0, true);
        result("the data is stripped", data, LinkYard.OK, -1);
    }

    /** "in any round": it fits at first, and is large when one became long, or one of the next round. */
    private static void largeInALaterRound() {
        for (int words : new int[] {254, 255}) {
            LinkYard yard = Op.program(Op.JUMP, 0, 1);
            Op.space(yard, 0, words);
            Op.put(yard, 0, Op.LABEL, 1, Op.LOCAL);
            result("a long JUMP and " + words, yard, words == 254 ? LinkYard.OK : LinkYard.LARGE, -1);
        }
        for (int words : new int[] {223, 224}) {
            LinkYard yard = Op.program(Op.JUMP, 0, 2, Op.JUMP, 0, 1, Op.SPACE, 13, 0, Op.LABEL, 2, Op.LOCAL, Op.SPACE, 15, 0, Op.LABEL, 1, Op.LOCAL, Op.HALT, 0, 0);
            Op.space(yard, 0, words);
            result("two rounds and " + words, yard, words == 223 ? LinkYard.OK : LinkYard.LARGE, -1);
            check.due("the rounds", yard.size(3), words == 223 ? 2 : -1);
        }
    }

    /** "Links what is there now": no label, use or role of an earlier link. */
    private static void whatIsThereNow() {
        for (int kind : new int[] {Op.LOCAL, Op.GLOBAL, Op.WEAK}) {
            LinkYard yard = Op.program(Op.LABEL, 15, kind, Op.LABEL, 14, kind, Op.JUMP, 0, 15);
            result("labels of kind " + kind, yard, LinkYard.OK, -1);
            yard.clear(0);
            Op.put(yard, 0, Op.LABEL, 0, Op.WEAK);
            result("neither label nor use", yard, LinkYard.OK, -1);
            check.due("address(14)", yard.address(14), -1);
            Op.put(yard, 0, Op.JUMP, 0, 15);
            result("no label any more", yard, LinkYard.UNDEFINED, 15);
            Op.put(yard, 1, Op.LABEL, 14, Op.WEAK, Op.LABEL, 15, Op.WEAK, Op.LABEL, 13, Op.WEAK);
            yard.role(1, Op.ARCHIVE);
            result("one in the archive", yard, LinkYard.OK, -1);
            yard.role(1, Op.UNUSED);
            result("none in the archive any more", yard, LinkYard.UNDEFINED, 15);
        }
    }

    private static LinkYard linkedAndRun() {
        LinkYard yard = Op.program(Op.LI, 1, 300, Op.OUT, 1, 0, Op.STORE, 1, 0, Op.HALT, 0, 0, Op.LABEL, 6, Op.GLOBAL);
        Op.put(yard, 4, Op.WORD, 0, 9);
        yard.role(4, Op.TAKEN);
        yard.layout(90, false);
        yard.link();
        yard.run();
        return yard;
    }

    private static LinkYard small() {
        LinkYard yard = Op.program(Op.HALT, 0, 0);
        yard.link();
        return yard;
    }

    /** "what was linked before is no more, and what was run too": a new link tells nothing of the one before. */
    private static void linkedBeforeIsNoMore() {
        Supplier<LinkYard> anew = () -> {
            LinkYard yard = linkedAndRun();
            yard.clear(0);
            yard.clear(4);
            yard.role(4, Op.UNUSED);
            yard.layout(0, false);
            Op.put(yard, 0, Op.LABEL, 0, Op.GLOBAL, Op.HALT, 0, 0);
            yard.link();
            return yard;
        };
        Seen.same(check, "linked anew", Seen.all(anew), Seen.all(EdgesOfLinkTest::small));
        Supplier<LinkYard> again = () -> {
            LinkYard yard = linkedAndRun();
            yard.link();
            return yard;
        };
        Seen.same(check, "linked again", Seen.linked(again), Seen.linked(EdgesOfLinkTest::linkedAndRun));
        Seen.run(again).forEach((call, answer) -> check.due("linked again: " + call, answer, 0));
    }

    /** "what was linked before is no more": also if the new link fails, by each of the faults. */
    private static void failedLinkLeavesNothing() {
        int[][] spoilers = {{Op.LABEL, 6, Op.LOCAL}, {Op.LABEL, 0, Op.GLOBAL}, {Op.LABEL, 0, Op.LOCAL, Op.JUMP, 0, 15}, {}};
        int[] faults = {LinkYard.FAULTY, LinkYard.DUPLICATE, LinkYard.UNDEFINED, LinkYard.LARGE};
        int[] culprits = {0, 0, 15, -1};
        for (int k = 0; k < faults.length; k++) {
            int fault = k;
            Supplier<LinkYard> failed = () -> {
                LinkYard yard = linkedAndRun();
                Op.put(yard, fault == 0 ? 0 : 4, spoilers[fault]);
                if (faults[fault] == LinkYard.LARGE) {
                    Op.space(yard, 4, 256);
                }
                yard.link();
                return yard;
            };
            LinkYard yard = failed.get();
            result("fault " + faults[k], yard, faults[k], culprits[k]);
            check.due("fault " + faults[k] + ": run()", yard.run(), LinkYard.NOTHING);
            Seen.linked(failed).forEach((call, answer) -> check.due("fault " + faults[fault] + ": " + call, answer, call.equals("culprit()") ? culprits[fault] : -1));
            Seen.run(failed).forEach((call, answer) -> check.due("fault " + faults[fault] + ": " + call, answer, 0));
        }
    }

    /** "This and the four below speak of what was linked then, whatever was changed since." */
    private static void changedSince() {
        Supplier<LinkYard> changed = () -> {
            LinkYard yard = linkedAndRun();
            for (int module = 0; module < 6; module++) {
                yard.clear(module);
                Op.put(yard, module, Op.LABEL, 0, Op.GLOBAL, Op.SPACE, 16, 0, Op.SECTION, Op.DATA, 0, Op.LABEL, 6, Op.LOCAL, Op.LI, 2, 4000, Op.WORD, 0, 8, Op.WORD, 0, 8);
                yard.role(module, (module + 2) % 3);
            }
            yard.layout(3, true);
            return yard;
        };
        Seen.same(check, "changed since", Seen.linked(changed), Seen.linked(EdgesOfLinkTest::linkedAndRun));
        Seen.same(check, "changed since", Seen.run(changed), Seen.run(EdgesOfLinkTest::linkedAndRun));
        LinkYard yard = changed.get();
        check.due("changed since: run()", yard.run(), LinkYard.DONE);
        check.due("changed since: the output", yard.state(11), 300);
    }

    /** "FAULTY the module, DUPLICATE, UNDEFINED the symbol; else -1": also before the first link. */
    private static void culprits() {
        check.due("no link: culprit()", new LinkYard().culprit(), -1);
        check.due("OK: culprit()", small().culprit(), -1);
        for (int module = 0; module < 6; module++) {
            LinkYard yard = new LinkYard();
            Op.put(yard, module, Op.LABEL, 9, Op.LOCAL, Op.LABEL, 9, Op.LOCAL);
            yard.role(module, Op.TAKEN);
            result("FAULTY " + module, yard, LinkYard.FAULTY, module);
        }
        for (int symbol = 0; symbol < 16; symbol++) {
            LinkYard yard = new LinkYard();
            Op.put(yard, 0, Op.LABEL, symbol, Op.GLOBAL);
            Op.put(yard, 1, Op.LABEL, symbol, Op.GLOBAL);
            rolesOf(yard, Op.TAKEN, 0, 1);
            result("DUPLICATE " + symbol, yard, LinkYard.DUPLICATE, symbol);
            LinkYard other = new LinkYard();
            Op.put(other, 0, Op.JUMP, 0, symbol, Op.LABEL, symbol == 0 ? 1 : 0, Op.WEAK);
            other.role(0, Op.TAKEN);
            result("UNDEFINED " + symbol, other, LinkYard.UNDEFINED, symbol);
        }
        LinkYard large = Op.program();
        Op.space(large, 0, 257);
        result("LARGE", large, LinkYard.LARGE, -1);
    }

    /** "For the latest link": neither a change nor a run nor a refused call is a link. */
    private static void culpritTillTheNextLink() {
        LinkYard yard = Op.program(Op.JUMP, 0, 12);
        yard.link();
        Op.put(yard, 0, Op.LABEL, 12, Op.LOCAL);
        check.due("after a change", yard.culprit(), 12);
        yard.run();
        check.due("after a run", yard.culprit(), 12);
        yard.clear(9);
        check.due("after a refused call", yard.culprit(), 12);
        result("the next link", yard, LinkYard.OK, -1);
        yard.clear(0);
        check.due("what would be wrong now", yard.culprit(), -1);
    }

    /** "Module number k (0 first) of the list ...; -1 if there is none, or the latest was not OK." */
    private static void listedEnds() {
        LinkYard yard = Op.program();
        check.due("before a link", yard.listed(0), -1);
        yard.link();
        listIs("one module", yard, 0);
        rolesOf(yard, Op.TAKEN, 1, 2, 3, 4, 5);
        listIs("till the next link", yard, 0);
        yard.link();
        listIs("six modules", yard, 0, 1, 2, 3, 4, 5);
        for (int k : new int[] {MIN, MAX}) {
            check.due("listed(" + k + ")", yard.listed(k), -1);
        }
        yard.role(0, Op.UNUSED);
        yard.link();
        listIs("the latest was not OK", yard);
    }
}
