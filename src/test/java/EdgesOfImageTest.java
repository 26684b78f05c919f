import java.util.function.Supplier;

/** The boundary cases of promises 9 to 12, and of units, stripping, layout, sizes and the image. */
public final class EdgesOfImageTest {
    private static final Check check = new Check();
    private static final int MIN = Integer.MIN_VALUE, MAX = Integer.MAX_VALUE;

    public static void main(String[] args) {
        sectionAtFirst();
        sectionItselfBelongs();
        noWordsAtAll();
        spaceEnds();
        alignEnds();
        alignAtMultiple();
        addressEnds();
        ownLocalLabel();
        firstAndLastItem();
        liEnds();
        liLowBits();
        jumpEnds();
        jumpToItself();
        laEnds();
        laOfFirstAndLast();
        noRound();
        allAtOnce();
        manyRounds();
        laPushedOverTheEdge();
        longStaysLong();
        linkedAnewBeginsShort();
        strippedToOneUnit();
        strippedNothing();
        reachedInACircle();
        reachedByLocalLabel();
        strippedUsesReachNothing();
        strippedAndRounds();
        unitsInOrder();
        fullImage();
        zeroWhereNothingLies();
        addressOfSymbols();
        addressOfStripped();
        whereEnds();
        whereOfThoseNotThere();
        wordEnds();
        sizeEnds();
        askingChangesNothing();
        check.end();
    }

    private static void sizes(String what, LinkYard yard, int... wanted) {
        check.due(what + ": link()", yard.link(), LinkYard.OK);
        for (int k = -1; k <= 4; k++) {
            check.due(what + ": size(" + k + ")", yard.size(k), k >= 0 && k < 4 ? wanted[k] : -1);
        }
    }

    private static void wordsAre(String what, LinkYard yard, int at, int... wanted) {
        for (int k = 0; k < wanted.length; k++) {
            check.due(what + ": word(" + (at + k) + ")", yard.word(at + k), wanted[k]);
        }
    }

    private static void placesAre(String what, LinkYard yard, int module, int... wanted) {
        for (int k = 0; k < wanted.length; k++) {
            check.due(what + ": where(" + module + ", " + k + ")", yard.where(module, k), wanted[k]);
        }
        check.due(what + ": where(" + module + ", " + wanted.length + ")", yard.where(module, wanted.length), -1);
    }

    /** "SECTION a ... begins again ...; at first it is 0": in each module, whatever the one before ended with. */
    private static void sectionAtFirst() {
        LinkYard yard = Op.program(Op.WORD, 0, 1, Op.SECTION, Op.DATA, 0, Op.WORD, 0, 2);
        Op.put(yard, 1, Op.WORD, 0, 3);
        yard.role(1, Op.TAKEN);
        sizes("text at first", yard, 2, 3, 0, 0);
        wordsAre("text at first", yard, 0, 1, 3, 2, 0);
    }

    /** "it and what follows belong to that": the SECTION item lies where its unit goes on. */
    private static void sectionItselfBelongs() {
        LinkYard yard = new LinkYard();
        Op.put(yard, 0, Op.SECTION, Op.DATA, 0, Op.WORD, 0, 2, Op.SECTION, Op.TEXT, 0, Op.LABEL, 0, Op.GLOBAL, Op.WORD, 0, 1, Op.SECTION, Op.TEXT, 0,
            Op.WORD, 0, 4, Op.SECTION, Op.DATA, 0);
        yard.role(0, Op.TAKEN);
        yard.layout(10, false);
        sizes("sections", yard, 12, 13, 0, 0);
        placesAre("sections", yard, 0, 12, 12, 10, 10, 10, 11, 11, 13);
        wordsAre("sections", yard, 9, 0, 1, 4, 2, 0);
        yard.layout(10, true);
        sizes("the data is stripped", yard, 12, 12, 0, 0);
        placesAre("the data is stripped", yard, 0, -1, -1, 10, 10, 10, 11, 11, -1);
    }

    /** "LABEL and SECTION 0 words": an image may have none. */
    private static void noWordsAtAll() {
        for (int origin : new int[] {0, 100}) {
            LinkYard yard = Op.program(Op.SECTION, Op.DATA, 0, Op.LABEL, 15, Op.GLOBAL, Op.SPACE, 0, 0);
            yard.layout(origin, false);
            sizes("no words", yard, origin, origin, 0, 0);
            placesAre("no words", yard, 0, origin, origin, origin, origin);
            check.due("no words: address(0)", yard.address(0), origin);
            check.due("no words: address(15)", yard.address(15), origin);
            for (int at = 0; at < 256; at++) {
                check.due("no words: word(" + at + ")", yard.word(at), 0);
            }
        }
    }

    /** "SPACE a (0..16) words 0". */
    private static void spaceEnds() {
        for (int words : new int[] {0, 1, 16}) {
            LinkYard yard = Op.program(Op.WORD, 0, -1, Op.SPACE, words, 0, Op.WORD, 0, -1);
            sizes("SPACE " + words, yard, words + 2, words + 2, 0, 0);
            placesAre("SPACE " + words, yard, 0, 0, 0, 1, words + 1);
            for (int at = 1; at <= words; at++) {
                check.due("SPACE " + words + ": word(" + at + ")", yard.word(at), 0);
            }
            check.due("SPACE " + words + ": behind it", yard.word(words + 1), -1);
        }
    }

    /** "ALIGN a (2..8): words 0 up to the next address that is a multiple of a": as many as a less one. */
    private static void alignEnds() {
        for (int step = 2; step <= 8; step++) {
            for (int over : new int[] {1, step - 1}) {
                LinkYard yard = Op.program(Op.ALIGN, step, 0, Op.WORD, 0, -1);
                yard.layout(5 * step + over, false);
                sizes("ALIGN " + step + " at " + over + " over", yard, 6 * step + 1, 6 * step + 1, 0, 0);
                placesAre("ALIGN " + step, yard, 0, 5 * step + over, 5 * step + over, 6 * step);
                check.due("ALIGN " + step + ": what it adds", yard.word(6 * step - 1), 0);
            }
        }
    }

    /** "ALIGN as many as it takes there": none where the address is a multiple, 0 among them. */
    private static void alignAtMultiple() {
        for (int step = 2; step <= 8; step++) {
            for (int origin : new int[] {0, step, 12 * step}) {
                LinkYard yard = Op.program(Op.ALIGN, step, 0, Op.ALIGN, step, 0, Op.WORD, 0, -1);
                yard.layout(origin, false);
                sizes("ALIGN " + step + " at " + origin, yard, origin + 1, origin + 1, 0, 0);
                check.due("ALIGN " + step + " at " + origin + ": the word", yard.word(origin), -1);
            }
        }
    }

    /** "ADDRESS symbol a, and b (-64..64) more": also below 0 and above 255. */
    private static void addressEnds() {
        LinkYard low = Op.program(Op.ADDRESS, 0, -64, Op.ADDRESS, 0, -1, Op.ADDRESS, 0, 0, Op.ADDRESS, 0, 64);
        sizes("ADDRESS of 0", low, 4, 4, 0, 0);
        wordsAre("ADDRESS of 0", low, 0, -64, -1, 0, 64, 0);
        LinkYard high = Op.program(Op.ADDRESS, 15, -64, Op.ADDRESS, 15, 0, Op.ADDRESS, 15, 64);
        Op.space(high, 0, 253);
        Op.put(high, 0, Op.LABEL, 15, Op.LOCAL);
        sizes("ADDRESS of 256", high, 256, 256, 0, 0);
        wordsAre("ADDRESS of 256", high, 0, 192, 256, 320, 0);
    }

    /** "ITS USE of a symbol ... is of its own local label, if it has one": before and behind, beside a chosen one. */
    private static void ownLocalLabel() {
        LinkYard yard = Op.program(Op.LABEL, 15, Op.GLOBAL, Op.ADDRESS, 15, 0);
        Op.put(yard, 1, Op.ADDRESS, 15, 0, Op.LABEL, 15, Op.LOCAL, Op.ADDRESS, 15, 0, Op.JUMP, 0, 15, Op.JZ, 1, 15, Op.CALL, 0, 15, Op.LA, 2, 15);
        Op.put(yard, 2, Op.ADDRESS, 15, 0, Op.LABEL, 15, Op.WEAK);
        yard.role(1, Op.TAKEN);
        yard.role(2, Op.TAKEN);
        sizes("local, global, weak", yard, 8, 8, 0, 0);
        wordsAre("local, global, weak", yard, 0, 0, 2, 2, 0x0800FFFF, 0x0910FFFE, 0x0A00FFFD, 0x0C200002, 0);
        check.due("the chosen one", yard.address(15), 0);
    }

    /** The first item of the first module and the last one of the last: their word, their growth, and what they reach. */
    private static void firstAndLastItem() {
        LinkYard yard = new LinkYard();
        Op.put(yard, 0, Op.JUMP, 0, 15, Op.LABEL, 0, Op.GLOBAL, Op.SPACE, 16, 0);
        Op.put(yard, 1, Op.LABEL, 15, Op.GLOBAL, Op.LA, 0, 14);
        for (int k = 0; k < 21; k++) {
            Op.put(yard, 5, Op.SPACE, 1, 0);
        }
        Op.put(yard, 5, Op.LABEL, 14, Op.GLOBAL, Op.SPACE, 1, 0, Op.CALL, 0, 13);
        Op.put(yard, 4, Op.LABEL, 13, Op.GLOBAL, Op.HALT, 0, 0);
        for (int module : new int[] {0, 1, 4, 5}) {
            yard.role(module, Op.TAKEN);
        }
        for (boolean strip : new boolean[] {false, true}) {
            yard.layout(0, strip);
            sizes("first and last item", yard, 44, 44, 2, 1);
            wordsAre("the first item", yard, 0, 0x08010012, 18, 0);
            wordsAre("the last item", yard, 42, Op.code(Op.CALL, 0, true, 19 - 42), 19, 0);
        }
    }

    /** "LI 2 if b is not -128..127". */
    private static void liEnds() {
        int[] values = {-128, 127, -129, 128, 0, -1, MIN, MAX};
        int[] words = {1, 1, 2, 2, 1, 1, 2, 2};
        for (int k = 0; k < values.length; k++) {
            LinkYard yard = Op.program(Op.LI, 0, values[k]);
            sizes("LI " + values[k], yard, words[k], words[k], 0, 0);
            check.due("LI " + values[k] + ": its LONG bit", yard.word(0) >> 16 & 1, words[k] - 1);
            check.due("LI " + values[k] + ": behind its word", yard.word(1), words[k] == 2 ? values[k] : 0);
        }
    }

    /** "the lowest 16 bits of: b of LI", "register a * 2^20": nothing of b spills into what lies above. */
    private static void liLowBits() {
        int[] values = {-1, -128, 32767, 32768, 65535, 65536, -32768, -32769, -65536, MIN, MAX};
        int[] low = {0xFFFF, 0xFF80, 0x7FFF, 0x8000, 0xFFFF, 0, 0x8000, 0x7FFF, 0, 0, 0xFFFF};
        for (int k = 0; k < values.length; k++) {
            for (int register : new int[] {0, 7}) {
                LinkYard yard = Op.program(Op.LI, register, values[k]);
                yard.link();
                int longBit = k < 2 ? 0 : 0x10000;
                check.due("LI " + register + ", " + values[k], yard.word(0), 0x01000000 + register * 0x100000 + longBit + low[k]);
            }
        }
    }

    /** A use of symbol 1 whose label lies so far away, before it was made long. */
    private static LinkYard distant(int op, int distance) {
        LinkYard yard = new LinkYard();
        yard.role(0, Op.TAKEN);
        if (distance > 0) {
            Op.put(yard, 0, Op.LABEL, 0, Op.GLOBAL, op, 0, 1);
            Op.space(yard, 0, distance - 1);
            Op.put(yard, 0, Op.LABEL, 1, Op.LOCAL);
        } else {
            Op.put(yard, 0, Op.LABEL, 1, Op.LOCAL);
            Op.space(yard, 0, -distance);
            Op.put(yard, 0, Op.LABEL, 0, Op.GLOBAL, op, 0, 1);
        }
        return yard;
    }

    /** "each JUMP, JZ, CALL whose label's address less its own is not -16..15 ... becomes long". */
    private static void jumpEnds() {
        for (int op : new int[] {Op.JUMP, Op.JZ, Op.CALL}) {
            String what = "op " + op + " over ";
            LinkYard forth = distant(op, 15);
            sizes(what + 15, forth, 15, 15, 0, 0);
            wordsAre(what + 15, forth, 0, op * 0x1000000 + 15, 0);
            LinkYard further = distant(op, 16);
            sizes(what + 16, further, 17, 17, 1, 1);
            wordsAre(what + 16, further, 0, op * 0x1000000 + 0x10000 + 17, 17, 0);
            LinkYard back = distant(op, -16);
            sizes(what + -16, back, 17, 17, 0, 0);
            wordsAre(what + -16, back, 16, op * 0x1000000 + 0xFFF0, 0);
            LinkYard furtherBack = distant(op, -17);
            sizes(what + -17, furtherBack, 19, 19, 1, 1);
            wordsAre(what + -17, furtherBack, 17, op * 0x1000000 + 0x10000 + 0xFFEF, 0, 0);
        }
    }

    /** A distance of 0, and the farthest that the image has room for. */
    private static void jumpToItself() {
        LinkYard self = distant(Op.JUMP, 0);
        sizes("over 0", self, 1, 1, 0, 0);
        wordsAre("over 0", self, 0, 0x08000000, 0);
        LinkYard whole = distant(Op.CALL, 255);
        sizes("over all", whole, 256, 256, 1, 1);
        wordsAre("over all", whole, 0, 0x0A010100, 256, 0);
        LinkYard wholeBack = distant(Op.JZ, -254);
        sizes("back over all", wholeBack, 256, 256, 1, 1);
        wordsAre("back over all", wholeBack, 253, 0, 0x0901FF02, 0);
    }

    /** "each LA whose label's address is above 63, becomes long": its own address says nothing. */
    private static void laEnds() {
        LinkYard yard = Op.program(Op.LABEL, 1, Op.LOCAL, Op.LA, 7, 1);
        yard.layout(63, false);
        sizes("LA of 63", yard, 64, 64, 0, 0);
        wordsAre("LA of 63", yard, 63, 0x0C70003F, 0);
        yard.layout(64, false);
        sizes("LA of 64", yard, 66, 66, 1, 1);
        wordsAre("LA of 64", yard, 64, 0x0C710040, 64, 0);
        LinkYard away = distant(Op.LA, -63);
        Op.space(away, 0, 16);
        Op.put(away, 0, Op.LA, 1, 0);
        sizes("LA of 0 at 63 and of 63 at 80", away, 81, 81, 0, 0);
        wordsAre("LA of 0 at 63", away, 63, 0x0C000000);
        wordsAre("LA of 63 at 80", away, 80, 0x0C10003F, 0);
    }

    /** LA of the least and of the greatest address that a label can have. */
    private static void laOfFirstAndLast() {
        LinkYard yard = Op.program(Op.LA, 1, 0, Op.LA, 2, 15);
        Op.space(yard, 0, 253);
        Op.put(yard, 0, Op.LABEL, 15, Op.LOCAL);
        sizes("LA of 0 and 256", yard, 256, 256, 1, 1);
        wordsAre("LA of 0 and 256", yard, 0, 0x0C100000, 0x0C210100, 256, 0);
    }

    /** "at first none is" long; "how many instructions were made long by the rounds": an LI of 2 words was not. */
    private static void noRound() {
        LinkYard yard = Op.program(Op.LI, 0, 128, Op.LI, 0, MAX, Op.JUMP, 0, 0);
        sizes("long LIs alone", yard, 5, 5, 0, 0);
    }

    /** "becomes long, all at once": by the addresses from before, not by those that come out meanwhile. */
    private static void allAtOnce() {
        LinkYard yard = Op.program();
        for (int k = 0; k < 8; k++) {
            Op.put(yard, 0, k % 2 == 0 ? Op.JUMP : Op.LA, 0, k % 2 == 0 ? 1 : 2);
        }
        Op.space(yard, 0, 56);
        Op.put(yard, 0, Op.LABEL, 1, Op.LOCAL, Op.LABEL, 2, Op.LOCAL);
        sizes("all at once", yard, 72, 72, 8, 1);
        LinkYard pair = Op.program(Op.JUMP, 0, 1, Op.JUMP, 0, 2, Op.SPACE, 13, 0, Op.LABEL, 1, Op.LOCAL, Op.SPACE, 2, 0, Op.LABEL, 2, Op.LOCAL);
        sizes("one pushes the other", pair, 19, 19, 2, 2);
    }

    /** "this is repeated until nothing changes": each JUMP that grows pushes the one before over the edge. */
    private static void manyRounds() {
        LinkYard yard = new LinkYard();
        Op.put(yard, 0, Op.LABEL, 0, Op.GLOBAL);
        for (int k = 1; k <= 8; k++) {
            Op.put(yard, 0, Op.JUMP, 0, k);
        }
        yard.role(0, Op.TAKEN);
        yard.role(1, Op.TAKEN);
        // Label k is 8 + k words away from its JUMP, the last one 15, or 16 and so too far.
        for (int last : new int[] {1, 2}) {
            yard.clear(1);
            Op.put(yard, 1, Op.SPACE, 1, 0, Op.LABEL, 1, Op.GLOBAL);
            for (int k = 2; k <= 8; k++) {
                Op.put(yard, 1, Op.SPACE, k < 8 ? 2 : last, 0, Op.LABEL, k, Op.GLOBAL);
            }
            int rounds = last == 1 ? 0 : 8;
            sizes(rounds + " rounds", yard, 21 + last + rounds, 21 + last + rounds, rounds, rounds);
        }
    }

    /** A label that a round pushes from 63 to 64 makes its LA long in the next round. */
    private static void laPushedOverTheEdge() {
        LinkYard yard = Op.program(Op.LA, 1, 1, Op.JUMP, 0, 1);
        Op.space(yard, 0, 61);
        Op.put(yard, 0, Op.LABEL, 1, Op.LOCAL, Op.LA, 2, 1);
        sizes("LA pushed", yard, 67, 67, 3, 2);
        wordsAre("LA pushed", yard, 0, 0x0C110041, 65, 0x0801003F, 65, 0);
        wordsAre("LA pushed", yard, 65, 0x0C210041, 65, 0);
    }

    /** What became long stays so, also if its label is near again. */
    private static void longStaysLong() {
        LinkYard yard = Op.program(Op.JUMP, 0, 1, Op.SPACE, 7, 0, Op.JUMP, 0, 1, Op.SPACE, 12, 0, Op.ALIGN, 8, 0, Op.LABEL, 1, Op.LOCAL);
        sizes("near again", yard, 24, 24, 2, 1);
        wordsAre("near again", yard, 9, 0x0801000F, 24, 0);
    }

    /** "at first none is": a new link begins with short ones, whatever became long in the one before. */
    private static void linkedAnewBeginsShort() {
        LinkYard yard = Op.program(Op.LA, 1, 0, Op.JUMP, 0, 2, Op.LABEL, 2, Op.LOCAL);
        yard.layout(64, false);
        sizes("from 64 on", yard, 67, 67, 1, 1);
        yard.layout(63, false);
        sizes("from 63 on", yard, 65, 65, 0, 0);
        sizes("once more", yard, 65, 65, 0, 0);
    }

    /** "With STRIPPING only those stay that are REACHED: the entry's": it may be the only one, text or data. */
    private static void strippedToOneUnit() {
        for (int section : new int[] {Op.TEXT, Op.DATA}) {
            LinkYard yard = new LinkYard();
            for (int module = 0; module < 6; module++) {
                Op.put(yard, module, Op.WORD, 0, 1, Op.SECTION, Op.DATA, 0, Op.WORD, 0, 2, Op.SECTION, section, 0);
                yard.role(module, Op.TAKEN);
            }
            Op.put(yard, 5, Op.LABEL, 0, Op.WEAK, Op.HALT, 0, 0);
            sizes("all units", yard, section == Op.TEXT ? 7 : 6, 13, 0, 0);
            yard.layout(40, true);
            sizes("the entry's unit", yard, section == Op.TEXT ? 42 : 40, 42, 0, 0);
            wordsAre("the entry's unit", yard, 39, 0, section == Op.TEXT ? 1 : 2, 0x0E000000, 0);
            check.due("the list stays", yard.listed(5), 5);
            check.due("run()", yard.run(), LinkYard.DONE);
        }
    }

    /** Stripping takes nothing away where all is reached. */
    private static void strippedNothing() {
        LinkYard yard = new LinkYard();
        for (int module = 0; module < 6; module++) {
            Op.put(yard, module, Op.LABEL, 2 * module, Op.GLOBAL, Op.ADDRESS, 2 * module + 1, 0, Op.SECTION, Op.DATA, 0, Op.LABEL, 2 * module + 1, Op.GLOBAL,
                Op.ADDRESS, (2 * module + 2) % 12, 0);
            yard.role(module, Op.TAKEN);
        }
        sizes("without stripping", yard, 6, 12, 0, 0);
        yard.layout(0, true);
        sizes("with stripping", yard, 6, 12, 0, 0);
    }

    /** "for each reached one those of the labels that items in it use": also in a circle, and by its own label. */
    private static void reachedInACircle() {
        LinkYard yard = Op.program(Op.JUMP, 0, 0, Op.JUMP, 0, 1);
        Op.put(yard, 1, Op.LABEL, 1, Op.GLOBAL, Op.JUMP, 0, 0, Op.SECTION, Op.DATA, 0, Op.LABEL, 2, Op.LOCAL, Op.ADDRESS, 2, 0);
        yard.role(1, Op.TAKEN);
        yard.layout(0, true);
        sizes("a circle", yard, 3, 3, 0, 0);
        placesAre("a circle", yard, 1, 2, 2, -1, -1, -1);
    }

    /** The label that an item uses may be a local one of the module's other section. */
    private static void reachedByLocalLabel() {
        LinkYard yard = Op.program(Op.LA, 1, 4, Op.SECTION, Op.DATA, 0, Op.LABEL, 4, Op.LOCAL, Op.WORD, 0, 7);
        Op.put(yard, 1, Op.WORD, 0, 8, Op.LABEL, 4, Op.GLOBAL);
        yard.role(1, Op.TAKEN);
        yard.layout(0, true);
        sizes("a local label", yard, 1, 2, 0, 0);
        wordsAre("a local label", yard, 0, 0x0C100001, 7, 0);
        check.due("the chosen one did not stay", yard.address(4), -1);
    }

    /** A unit that is used only by one that is not reached does not stay. */
    private static void strippedUsesReachNothing() {
        LinkYard yard = Op.program(Op.HALT, 0, 0, Op.SECTION, Op.DATA, 0, Op.ADDRESS, 5, 0);
        Op.put(yard, 1, Op.LABEL, 5, Op.GLOBAL, Op.WORD, 0, 8);
        yard.role(1, Op.ARCHIVE);
        yard.layout(0, true);
        sizes("used by what is stripped", yard, 1, 1, 0, 0);
        check.due("it is in the list all the same", yard.listed(1), 1);
        check.due("its label is not there", yard.address(5), -1);
    }

    /** What is stripped takes no words and asks for no rounds. */
    private static void strippedAndRounds() {
        LinkYard yard = Op.program(Op.HALT, 0, 0, Op.SECTION, Op.DATA, 0, Op.JUMP, 0, 0, Op.LI, 0, 1000);
        Op.space(yard, 1, 256);
        yard.role(1, Op.TAKEN);
        check.due("all of it", yard.link(), LinkYard.LARGE);
        yard.layout(100, true);
        sizes("what is reached", yard, 101, 101, 0, 0);
        LinkYard near = Op.program(Op.LA, 1, 3);
        Op.space(near, 1, 64);
        Op.put(near, 2, Op.LABEL, 3, Op.GLOBAL, Op.HALT, 0, 0);
        near.role(1, Op.TAKEN);
        near.role(2, Op.TAKEN);
        sizes("with what lies between", near, 67, 67, 1, 1);
        near.layout(0, true);
        sizes("without what lies between", near, 2, 2, 0, 0);
    }

    /** "all units that stay with section 0 in the order of the list, then those with section 1". */
    private static void unitsInOrder() {
        LinkYard yard = new LinkYard();
        for (int module = 0; module < 6; module++) {
            Op.put(yard, module, Op.SECTION, Op.DATA, 0, Op.WORD, 0, 20 + module, Op.SECTION, Op.TEXT, 0, Op.WORD, 0, 10 + module, Op.LABEL, module, Op.GLOBAL);
            yard.role(module, module % 2 == 1 ? Op.TAKEN : Op.ARCHIVE);
        }
        Op.put(yard, 1, Op.ADDRESS, 4, 0);
        Op.put(yard, 4, Op.ADDRESS, 2, 0);
        yard.layout(7, false);
        sizes("six modules", yard, 15, 21, 0, 0);
        wordsAre("six modules", yard, 6, 0, 11, 13, 13, 15, 10, 14, 15, 12, 21, 23, 25, 20, 24, 22, 0);
    }

    /** "THE IMAGE has 256 words": from the first to the last one. */
    private static void fullImage() {
        LinkYard yard = Op.program(Op.WORD, 0, MIN);
        Op.space(yard, 0, 254);
        Op.put(yard, 0, Op.WORD, 0, MAX, Op.LABEL, 15, Op.GLOBAL);
        sizes("a full image", yard, 256, 256, 0, 0);
        wordsAre("a full image", yard, 0, MIN, 0);
        wordsAre("a full image", yard, 254, 0, MAX, -1);
        check.due("the label behind it", yard.address(15), 256);
        LinkYard two = Op.program();
        Op.space(two, 0, 254);
        Op.put(two, 0, Op.LI, 7, MIN);
        sizes("two words at the end", two, 256, 256, 0, 0);
        wordsAre("two words at the end", two, 254, 0x01710000, MIN, -1);
    }

    /** "0 where nothing lies": before the origin, behind the end, and where an earlier image had words. */
    private static void zeroWhereNothingLies() {
        LinkYard yard = Op.program(Op.WORD, 0, -1);
        yard.layout(0, false);
        yard.link();
        yard.layout(100, false);
        yard.link();
        for (int at = 0; at < 256; at++) {
            check.due("word(" + at + ")", yard.word(at), at == 100 ? -1 : 0);
        }
    }

    /** "The address of a symbol's chosen label, -1 if it has none": symbols are 0..15. */
    private static void addressOfSymbols() {
        LinkYard yard = Op.program(Op.WORD, 0, 1, Op.LABEL, 15, Op.WEAK, Op.WORD, 0, 2, Op.LABEL, 14, Op.LOCAL);
        check.due("before a link", yard.address(0), -1);
        yard.link();
        for (int symbol = -1; symbol <= 16; symbol++) {
            check.due("address(" + symbol + ")", yard.address(symbol), symbol == 0 ? 0 : symbol == 15 ? 1 : -1);
        }
        check.due("address(MIN)", yard.address(MIN), -1);
        check.due("address(MAX)", yard.address(MAX), -1);
    }

    /** "or its unit did not stay": also if the other unit of that module stays. */
    private static void addressOfStripped() {
        LinkYard yard = Op.program(Op.SECTION, Op.DATA, 0, Op.LABEL, 1, Op.GLOBAL);
        Op.put(yard, 1, Op.LABEL, 2, Op.WEAK);
        yard.role(1, Op.TAKEN);
        yard.link();
        check.due("address(1)", yard.address(1), 0);
        check.due("address(2)", yard.address(2), 0);
        yard.layout(0, true);
        yard.link();
        check.due("address(0), stripped", yard.address(0), 0);
        check.due("address(1), stripped", yard.address(1), -1);
        check.due("address(2), stripped", yard.address(2), -1);
        yard.layout(0, false);
        yard.link();
        check.due("address(1), all again", yard.address(1), 0);
    }

    /** "The address of item k of a module; -1 if there is none": the first and last of the first and last module. */
    private static void whereEnds() {
        LinkYard yard = new LinkYard();
        for (int module = 0; module < 6; module++) {
            for (int k = 0; k < 24; k++) {
                Op.put(yard, module, k == 0 && module == 0 ? Op.LABEL : Op.WORD, 0, 1);
            }
            yard.role(module, Op.TAKEN);
        }
        check.due("before a link", yard.where(0, 0), -1);
        sizes("six full modules", yard, 143, 143, 0, 0);
        int[][] asked = {{0, 0}, {0, 1}, {0, 23}, {5, 0}, {5, 23}};
        int[] wanted = {0, 0, 22, 119, 142};
        for (int k = 0; k < asked.length; k++) {
            check.due("where(" + asked[k][0] + ", " + asked[k][1] + ")", yard.where(asked[k][0], asked[k][1]), wanted[k]);
        }
        int[][] wrong = {{-1, 0}, {6, 0}, {0, -1}, {0, 24}, {5, 24}, {5, -1}, {-1, 24}, {6, -24}, {1, -1}, {MIN, 0}, {MAX, 0}, {0, MIN}, {0, MAX}, {MIN, MIN}, {MAX, MAX}};
        for (int[] one : wrong) {
            check.due("where(" + one[0] + ", " + one[1] + ")", yard.where(one[0], one[1]), -1);
        }
    }

    /** "or it is not there": of a module that is not in the list, or in a unit that did not stay. */
    private static void whereOfThoseNotThere() {
        LinkYard yard = Op.program(Op.HALT, 0, 0, Op.SECTION, Op.DATA, 0, Op.WORD, 0, 3);
        Op.put(yard, 1, Op.WORD, 0, 1);
        Op.put(yard, 2, Op.LABEL, 9, Op.GLOBAL, Op.WORD, 0, 2);
        yard.role(2, Op.ARCHIVE);
        yard.link();
        placesAre("all of the list", yard, 0, 0, 0, 1, 1);
        check.due("an unused module", yard.where(1, 0), -1);
        check.due("one in the archive", yard.where(2, 0), -1);
        yard.layout(0, true);
        yard.link();
        placesAre("stripped", yard, 0, 0, 0, -1, -1);
    }

    /** "The word at an address of the image as linked; -1 if there is none." */
    private static void wordEnds() {
        LinkYard yard = Op.program(Op.LI, 1, 5, Op.STORE, 1, 0, Op.HALT, 0, 0);
        check.due("before a link", yard.word(0), -1);
        yard.link();
        for (int at : new int[] {-1, 256, MIN, MAX}) {
            check.due("word(" + at + ")", yard.word(at), -1);
        }
        check.due("word(255)", yard.word(255), 0);
        check.due("word(0)", yard.word(0), 0x01100005);
        check.due("run()", yard.run(), LinkYard.DONE);
        check.due("memory(0) after the run", yard.memory(0), 5);
        check.due("word(0) as linked", yard.word(0), 0x01100005);
    }

    /** "size(int what): ... (what 0) ... (1) ... (2) ... (3); -1 otherwise." */
    private static void sizeEnds() {
        LinkYard yard = Op.program(Op.LA, 1, 0, Op.SECTION, Op.DATA, 0, Op.WORD, 0, 1);
        for (int what = -1; what <= 4; what++) {
            check.due("before a link: size(" + what + ")", yard.size(what), -1);
        }
        yard.layout(100, false);
        sizes("size", yard, 102, 103, 1, 1);
        check.due("size(MIN)", yard.size(MIN), -1);
        check.due("size(MAX)", yard.size(MAX), -1);
    }

    private static LinkYard linkedAndRun() {
        LinkYard yard = Op.program(Op.LI, 1, 5, Op.OUT, 1, 0, Op.STORE, 1, 0, Op.LA, 2, 4, Op.HALT, 0, 0, Op.SECTION, Op.DATA, 0, Op.LABEL, 4, Op.GLOBAL);
        yard.layout(70, true);
        yard.link();
        yard.run();
        return yard;
    }

    /** A call that only asks changes nothing, whether it is answered or has no answer. */
    private static void askingChangesNothing() {
        Supplier<LinkYard> made = EdgesOfImageTest::linkedAndRun;
        for (int k : new int[] {MIN, -1, 0, 5, 6, 256, MAX}) {
            Seen.unchanged(check, "asking with " + k, made, yard -> {
                yard.culprit();
                yard.listed(k);
                yard.address(k);
                yard.where(k, k);
                yard.where(0, k);
                yard.word(k);
                yard.size(k);
                yard.state(k);
                yard.memory(k);
            });
        }
    }
}
