/** Promises 9 to 12: address, where, word, size; with units, stripping, layout and relaxation. */
public final class ImageTest {
    private static final Check check = new Check();

    public static void main(String[] args) {
        instructions();
        longLi();
        words();
        relations();
        order();
        sectionsBeginAgain();
        aligns();
        ownLabels();
        stripping();
        strippedChain();
        distances();
        laDistances();
        rounds();
        longStaysLong();
        longWords();
        outOfRange();
        edgeOfImage();
        firstItem();
        strippedLater();
        fullModules();
        longestChain();
        check.end();
    }

    private static void wordsAre(String what, LinkYard yard, int at, int... wanted) {
        for (int k = 0; k < wanted.length; k++) {
            check.due(what + ": word(" + (at + k) + ")", yard.word(at + k), wanted[k]);
        }
    }

    private static void sizes(String what, LinkYard yard, int... wanted) {
        check.due(what + ": link()", yard.link(), LinkYard.OK);
        for (int k = 0; k < 4; k++) {
            check.due(what + ": size(" + k + ")", yard.size(k), wanted[k]);
        }
    }

    private static void instructions() {
        LinkYard yard = Op.program(Op.LI, 7, -128, Op.LI, 1, 127, Op.ADD, 1, 2, Op.SUB, 3, 4, Op.MUL, 5, 6, Op.LESS, 7, 0,
            Op.LOAD, 2, 7, Op.STORE, 4, 5, Op.RET, 99, -7, Op.OUT, 6, 88, Op.HALT, -1, -1);
        sizes("instructions", yard, 11, 11, 0, 0);
        wordsAre("instructions", yard, 0, 0x0170FF80, 0x0110007F, 0x02100002, 0x03300004, 0x04500006, 0x05700000,
            0x06200007, 0x07400005, 0x0B000000, 0x0D600000, 0x0E000000, 0);
    }

    private static void longLi() {
        LinkYard yard = Op.program(Op.LI, 3, 128, Op.LI, 4, -129, Op.LI, 5, Integer.MIN_VALUE, Op.LI, 6, 0x12345678);
        sizes("LI", yard, 8, 8, 0, 0);
        wordsAre("LI", yard, 0, 0x01310080, 128, 0x0141FF7F, -129, 0x01510000, Integer.MIN_VALUE, 0x01615678, 0x12345678, 0);
    }

    private static void words() {
        LinkYard yard = Op.program(Op.WORD, -9, Integer.MAX_VALUE, Op.SPACE, 2, 77, Op.SPACE, 0, 0, Op.WORD, 0, -1,
            Op.ADDRESS, 6, -64, Op.ADDRESS, 6, 64, Op.LABEL, 6, Op.GLOBAL);
        yard.layout(30, false);
        sizes("data", yard, 36, 36, 0, 0);
        wordsAre("data", yard, 29, 0, Integer.MAX_VALUE, 0, 0, -1, 36 - 64, 36 + 64, 0);
        check.due("where of SPACE 0", yard.where(0, 3), 33);
        check.due("address(6)", yard.address(6), 36);
        // A second link must not show words of the first one.
        yard.layout(100, false);
        yard.link();
        wordsAre("linked anew", yard, 29, 0, 0, 0, 0, 0, 0, 0);
    }

    private static void relations() {
        LinkYard yard = Op.program(Op.JUMP, 9, 1, Op.JZ, 7, 0, Op.CALL, -5, 0, Op.LA, 6, 1, Op.LABEL, 1, Op.LOCAL);
        yard.layout(10, false);
        sizes("relations", yard, 14, 14, 0, 0);
        wordsAre("relations", yard, 10, 0x08000004, 0x0970FFFF, 0x0A00FFFE, 0x0C60000E);
    }

    private static void order() {
        LinkYard yard = new LinkYard();
        for (int module = 0; module < 3; module++) {
            Op.put(yard, module, Op.SECTION, Op.DATA, 0, Op.WORD, 0, 10 + module, Op.SECTION, Op.TEXT, 0, Op.WORD, 0, 20 + module);
        }
        Op.put(yard, 2, Op.LABEL, 0, Op.GLOBAL, Op.ADDRESS, 1, 0);
        Op.put(yard, 0, Op.LABEL, 1, Op.GLOBAL);
        yard.role(0, Op.ARCHIVE);
        yard.role(1, Op.TAKEN);
        yard.role(2, Op.TAKEN);
        yard.layout(5, false);
        sizes("order", yard, 9, 12, 0, 0);
        wordsAre("order", yard, 5, 21, 22, 9, 20, 11, 12, 10, 0);
        check.due("address(1)", yard.address(1), 9);
    }

    private static void sectionsBeginAgain() {
        LinkYard yard = Op.program(Op.WORD, 0, 1, Op.SECTION, 1, 0, Op.WORD, 0, 2, Op.SECTION, 0, 0, Op.WORD, 0, 3,
            Op.SECTION, 1, 0, Op.WORD, 0, 4, Op.SECTION, 1, 0, Op.LABEL, 3, Op.WEAK);
        sizes("sections", yard, 2, 4, 0, 0);
        wordsAre("sections", yard, 0, 1, 3, 2, 4);
        int[] places = {0, 0, 2, 2, 1, 1, 3, 3, 4, 4};
        for (int k = 0; k < places.length; k++) {
            check.due("where(0, " + k + ")", yard.where(0, k), places[k]);
        }
        check.due("address(3)", yard.address(3), 4);
        LinkYard empty = Op.program(Op.SPACE, 1, 5, Op.SECTION, 1, 5, Op.SPACE, 2, 5, Op.SECTION, 0, 5, Op.SPACE, 1, 5);
        sizes("nothing but space", empty, 2, 4, 0, 0);
        wordsAre("nothing but space", empty, 0, 0, 0, 0, 0, 0);
    }

    private static void aligns() {
        for (int step = 2; step <= 8; step++) {
            for (int origin = 0; origin <= 24; origin++) {
                LinkYard yard = Op.program(Op.ALIGN, step, 99, Op.WORD, 0, 6);
                yard.layout(origin, false);
                yard.link();
                int at = (origin + step - 1) / step * step;
                check.due("ALIGN " + step + " at " + origin, yard.where(0, 2), at);
                check.due("its word", yard.word(at), 6);
                for (int k = origin; k < at; k++) {
                    check.due("a word that it adds", yard.word(k), 0);
                }
                check.due("where the ALIGN is", yard.where(0, 1), origin);
            }
        }
    }

    private static void ownLabels() {
        LinkYard yard = Op.program(Op.ADDRESS, 4, 0, Op.LABEL, 4, Op.LOCAL, Op.WORD, 0, 0);
        Op.put(yard, 1, Op.ADDRESS, 4, 0, Op.LABEL, 4, Op.WEAK, Op.WORD, 0, 0);
        Op.put(yard, 2, Op.ADDRESS, 4, 0, Op.LABEL, 4, Op.GLOBAL, Op.WORD, 0, 0);
        yard.role(1, Op.TAKEN);
        sizes("a weak one", yard, 4, 4, 0, 0);
        wordsAre("a weak one", yard, 0, 1, 0, 3, 0);
        check.due("address(4)", yard.address(4), 3);
        yard.role(2, Op.TAKEN);
        sizes("a global one", yard, 6, 6, 0, 0);
        // The module's own weak label is not its use when there is a global one.
        wordsAre("a global one", yard, 0, 1, 0, 5, 0, 5, 0);
        check.due("address(4)", yard.address(4), 5);
        check.due("address of a symbol without a label", yard.address(9), -1);
        LinkYard local = Op.program(Op.LABEL, 7, Op.LOCAL);
        local.link();
        check.due("address of a local label", local.address(7), -1);
    }

    private static void stripping() {
        LinkYard yard = Op.program(Op.HALT, 0, 0, Op.SECTION, Op.DATA, 0, Op.LABEL, 2, Op.GLOBAL, Op.WORD, 0, 5);
        Op.put(yard, 1, Op.LABEL, 3, Op.GLOBAL, Op.WORD, 0, 6, Op.LA, 0, 2);
        yard.role(1, Op.TAKEN);
        sizes("all", yard, 3, 4, 0, 0);
        yard.layout(0, true);
        sizes("stripped", yard, 1, 1, 0, 0);
        wordsAre("stripped", yard, 0, 0x0E000000, 0, 0);
        check.due("address(0)", yard.address(0), 0);
        check.due("address(2)", yard.address(2), -1);
        check.due("address(3)", yard.address(3), -1);
        check.due("where(0, 1)", yard.where(0, 1), 0);
        check.due("where(0, 2)", yard.where(0, 2), -1);
        check.due("where(0, 3)", yard.where(0, 3), -1);
        check.due("where(1, 0)", yard.where(1, 0), -1);
        check.due("listed(1)", yard.listed(1), 1);
    }

    private static void strippedChain() {
        LinkYard yard = new LinkYard();
        // The entry's unit uses a local label of its data, which uses a weak one, which uses a global one.
        Op.put(yard, 5, Op.LABEL, 0, Op.GLOBAL, Op.LA, 1, 1, Op.SECTION, 1, 0, Op.LABEL, 1, Op.LOCAL, Op.ADDRESS, 2, 0);
        Op.put(yard, 4, Op.WORD, 0, 44, Op.SECTION, 1, 0, Op.LABEL, 2, Op.WEAK, Op.ADDRESS, 3, 0);
        Op.put(yard, 3, Op.LABEL, 3, Op.GLOBAL, Op.WORD, 0, 33, Op.SECTION, 1, 0, Op.WORD, 0, 34);
        Op.put(yard, 2, Op.LABEL, 1, Op.GLOBAL, Op.LABEL, 2, Op.WEAK, Op.WORD, 0, 22);
        for (int module = 2; module < 6; module++) {
            yard.role(module, Op.TAKEN);
        }
        yard.clear(2);
        yard.layout(50, true);
        sizes("chain", yard, 52, 54, 0, 0);
        wordsAre("chain", yard, 49, 0, 33, 0x0C100035, 50, 52, 0);
        check.due("where(4, 0)", yard.where(4, 0), -1);
        check.due("where(4, 2)", yard.where(4, 2), 52);
        check.due("where(3, 3)", yard.where(3, 3), -1);
        check.due("address(2)", yard.address(2), 52);
        check.due("address(1)", yard.address(1), -1);
        LinkYard data = new LinkYard();
        Op.put(data, 0, Op.WORD, 0, 1, Op.SECTION, 1, 0, Op.LABEL, 0, Op.WEAK, Op.WORD, 0, 2);
        data.role(0, Op.TAKEN);
        data.layout(7, true);
        sizes("the entry in the data", data, 7, 8, 0, 0);
        wordsAre("the entry in the data", data, 7, 2, 0);
    }

    /** A jump over so many words, forwards or backwards. */
    private static LinkYard jump(int op, int distance) {
        LinkYard yard = new LinkYard();
        yard.role(0, Op.TAKEN);
        if (distance > 0) {
            Op.put(yard, 0, Op.LABEL, 0, Op.GLOBAL, op, 0, 1);
            Op.space(yard, 0, distance - 1);
            Op.put(yard, 0, Op.LABEL, 1, Op.LOCAL);
        } else {
            Op.put(yard, 0, Op.LABEL, 1, Op.LOCAL);
            Op.space(yard, 0, -distance);
            Op.put(yard, 0, Op.LABEL, 0, Op.GLOBAL, op, 0, 1);
        }
        return yard;
    }

    private static void distances() {
        for (int op : new int[] {Op.JUMP, Op.JZ, Op.CALL}) {
            String what = "op " + op;
            LinkYard near = jump(op, 15);
            sizes(what + " 15", near, 15, 15, 0, 0);
            wordsAre(what + " 15", near, 0, (op << 24) + 15, 0);
            LinkYard far = jump(op, 16);
            sizes(what + " 16", far, 17, 17, 1, 1);
            wordsAre(what + " 16", far, 0, (op << 24) + 0x10011, 17, 0);
            LinkYard back = jump(op, -16);
            sizes(what + " -16", back, 17, 17, 0, 0);
            wordsAre(what + " -16", back, 15, 0, (op << 24) + 0xFFF0, 0);
            LinkYard farBack = jump(op, -17);
            farBack.layout(3, false);
            sizes(what + " -17", farBack, 22, 22, 1, 1);
            wordsAre(what + " -17", farBack, 19, 0, (op << 24) + 0x1FFEF, 3, 0);
        }
    }

    private static void laDistances() {
        LinkYard yard = Op.program(Op.LABEL, 1, Op.GLOBAL, Op.LA, 4, 1);
        yard.layout(63, false);
        sizes("LA 63", yard, 64, 64, 0, 0);
        wordsAre("LA 63", yard, 63, 0x0C40003F, 0);
        yard.layout(64, false);
        sizes("LA 64", yard, 66, 66, 1, 1);
        wordsAre("LA 64", yard, 64, 0x0C410040, 64, 0);
        LinkYard far = Op.program(Op.LA, 2, 1);
        Op.space(far, 0, 60);
        Op.put(far, 0, Op.LABEL, 1, Op.LOCAL);
        sizes("LA far away but low", far, 61, 61, 0, 0);
        wordsAre("LA far away but low", far, 0, 0x0C20003D, 0);
        LinkYard address = Op.program(Op.LABEL, 1, Op.GLOBAL, Op.ADDRESS, 1, 0);
        address.layout(100, false);
        sizes("ADDRESS has one word", address, 101, 101, 0, 0);
    }

    private static void rounds() {
        // Jump k reaches label k; only the last one is far at first, and each that grows pushes the one before.
        LinkYard yard = new LinkYard();
        yard.role(0, Op.TAKEN);
        Op.put(yard, 0, Op.LABEL, 0, Op.GLOBAL, Op.JUMP, 0, 1, Op.JUMP, 0, 2, Op.JUMP, 0, 3);
        Op.put(yard, 0, Op.SPACE, 11, 0, Op.LABEL, 1, Op.LOCAL, Op.SPACE, 2, 0, Op.LABEL, 2, Op.LOCAL);
        Op.put(yard, 0, Op.SPACE, 2, 0, Op.LABEL, 3, Op.LOCAL);
        sizes("three rounds", yard, 21, 21, 3, 3);
        wordsAre("three rounds", yard, 0, 0x08010011, 17, 0x08010011, 19, 0x08010011, 21, 0);
        LinkYard both = new LinkYard();
        both.role(0, Op.TAKEN);
        Op.put(both, 0, Op.LABEL, 0, Op.GLOBAL, Op.JUMP, 0, 1, Op.JUMP, 0, 1, Op.LI, 0, 1000);
        Op.space(both, 0, 20);
        Op.put(both, 0, Op.LABEL, 1, Op.LOCAL);
        sizes("both at once", both, 26, 26, 2, 1);
    }

    private static void longStaysLong() {
        LinkYard yard = Op.program(Op.JUMP, 0, 1, Op.SPACE, 7, 0, Op.JUMP, 0, 1, Op.SPACE, 12, 0, Op.ALIGN, 8, 0, Op.LABEL, 1, Op.LOCAL);
        sizes("the ALIGN takes up what grew", yard, 24, 24, 2, 1);
        wordsAre("the ALIGN takes up what grew", yard, 0, 0x08010018, 24);
        wordsAre("near again, but long", yard, 9, 0x0801000F, 24, 0);
    }

    private static void longWords() {
        LinkYard yard = Op.program(Op.JZ, 5, 1, Op.CALL, 0, 1, Op.LA, 6, 1);
        Op.put(yard, 1, Op.LABEL, 1, Op.GLOBAL, Op.HALT, 0, 0);
        yard.role(1, Op.ARCHIVE);
        Op.space(yard, 0, 60);
        yard.layout(40, false);
        sizes("long ones", yard, 107, 107, 3, 1);
        wordsAre("long ones", yard, 40, 0x09510042, 106, 0x0A010040, 106, 0x0C61006A, 106, 0);
        check.due("word(106)", yard.word(106), 0x0E000000);
        yard.clear(0);
        Op.put(yard, 0, Op.LABEL, 0, Op.GLOBAL, Op.JZ, 5, 1);
        sizes("linked anew", yard, 42, 42, 0, 0);
        wordsAre("linked anew", yard, 40, 0x09500001, 0x0E000000, 0);
    }

    private static void outOfRange() {
        LinkYard yard = Op.program(Op.HALT, 0, 0);
        yard.link();
        for (int odd : new int[] {-1, 256, Integer.MAX_VALUE, Integer.MIN_VALUE}) {
            check.due("word(" + odd + ")", yard.word(odd), -1);
            check.due("address(" + odd + ")", yard.address(odd), -1);
            check.due("where(0, " + odd + ")", yard.where(0, odd), -1);
            check.due("where(" + odd + ", 0)", yard.where(odd, 0), -1);
            check.due("size(" + odd + ")", yard.size(odd), -1);
            check.due("listed(" + odd + ")", yard.listed(odd), -1);
        }
        check.due("word(255)", yard.word(255), 0);
        check.due("address(15)", yard.address(15), -1);
        check.due("address(16)", yard.address(16), -1);
        check.due("where(0, 2)", yard.where(0, 2), -1);
        check.due("where(0, 24)", yard.where(0, 24), -1);
        check.due("where(1, 0)", yard.where(1, 0), -1);
        Op.put(yard, 1, Op.HALT, 0, 0);
        yard.role(1, Op.TAKEN);
        yard.link();
        check.due("where(1, 0)", yard.where(1, 0), 1);
        check.due("where(0, 24) is not where(1, 0)", yard.where(0, 24), -1);
        check.due("where(1, -24) is not where(0, 0)", yard.where(1, -24), -1);
        check.due("where(6, 0)", yard.where(6, 0), -1);
        check.due("where(-1, 24)", yard.where(-1, 24), -1);
        check.due("size(4)", yard.size(4), -1);
    }

    private static void edgeOfImage() {
        LinkYard yard = new LinkYard();
        yard.role(0, Op.TAKEN);
        Op.space(yard, 0, 254);
        Op.put(yard, 0, Op.LA, 1, 0, Op.LABEL, 0, Op.GLOBAL);
        sizes("a label behind all", yard, 256, 256, 1, 1);
        check.due("address(0)", yard.address(0), 256);
        check.due("where of it", yard.where(0, 17), 256);
        wordsAre("a label behind all", yard, 254, 0x0C110100, 256);
    }

    private static void firstItem() {
        LinkYard yard = new LinkYard();
        yard.role(0, Op.TAKEN);
        Op.put(yard, 0, Op.JUMP, 0, 0, Op.SPACE, 16, 0, Op.LABEL, 0, Op.GLOBAL, Op.HALT, 0, 0);
        sizes("a jump comes first", yard, 19, 19, 1, 1);
        wordsAre("a jump comes first", yard, 0, 0x08010012, 18, 0);
        yard.layout(2, false);
        sizes("two further on", yard, 21, 21, 1, 1);
        wordsAre("two further on", yard, 0, 0, 0, 0x08010012, 20);
        LinkYard chain = new LinkYard();
        chain.role(0, Op.TAKEN);
        Op.put(chain, 0, Op.JUMP, 0, 1, Op.LABEL, 0, Op.GLOBAL, Op.SECTION, 1, 0, Op.LABEL, 1, Op.LOCAL, Op.HALT, 0, 0);
        chain.layout(0, true);
        sizes("the first item reaches", chain, 1, 2, 0, 0);
    }

    private static void strippedLater() {
        LinkYard yard = new LinkYard();
        Op.put(yard, 0, Op.WORD, 0, 3, Op.SECTION, 1, 0, Op.LABEL, 0, Op.GLOBAL, Op.HALT, 0, 0);
        yard.role(0, Op.TAKEN);
        sizes("all of it", yard, 1, 2, 0, 0);
        yard.layout(0, true);
        sizes("the data alone", yard, 0, 1, 0, 0);
        check.due("where(0, 0)", yard.where(0, 0), -1);
        check.due("where(0, 1)", yard.where(0, 1), 0);
        wordsAre("the data alone", yard, 0, 0x0E000000, 0);
    }

    private static void fullModules() {
        LinkYard yard = new LinkYard();
        for (int module = 0; module < 6; module++) {
            yard.role(module, Op.TAKEN);
            Op.put(yard, module, Op.LABEL, module, Op.GLOBAL);
            for (int k = 1; k < 24; k++) {
                Op.put(yard, module, Op.ADDRESS, 5 - module, k);
            }
        }
        sizes("six full modules", yard, 138, 138, 0, 0);
        check.due("listed(5)", yard.listed(5), 5);
        check.due("where(5, 23)", yard.where(5, 23), 137);
        check.due("word(137)", yard.word(137), 23);
        check.due("word(0)", yard.word(0), 5 * 23 + 1);
    }

    /** Unit by unit against the order of their numbers, from the last one to the first. */
    private static void longestChain() {
        LinkYard yard = new LinkYard();
        for (int module = 0; module < 6; module++) {
            yard.role(module, Op.TAKEN);
            Op.put(yard, module, Op.LABEL, 10 - 2 * module + 1, Op.GLOBAL, Op.WORD, 0, module);
            if (module > 0) {
                Op.put(yard, module, Op.ADDRESS, 10 - 2 * module + 2, 0);
            }
            Op.put(yard, module, Op.SECTION, 1, 0, Op.LABEL, 10 - 2 * module, Op.GLOBAL, Op.ADDRESS, 10 - 2 * module + 1, 0);
        }
        yard.layout(0, true);
        sizes("the longest chain", yard, 11, 17, 0, 0);
        check.due("the entry", yard.address(0), 16);
        check.due("the end of the chain", yard.address(11), 0);
    }
}
