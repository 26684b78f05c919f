/** The numbers that the document gives to items, kinds of labels, roles and sections. */
final class Op {
    static final int LABEL = 0, LI = 1, ADD = 2, SUB = 3, MUL = 4, LESS = 5, LOAD = 6, STORE = 7, JUMP = 8, JZ = 9;
    static final int CALL = 10, RET = 11, LA = 12, OUT = 13, HALT = 14, WORD = 15, ADDRESS = 16, SPACE = 17, ALIGN = 18, SECTION = 19;
    static final int LOCAL = 0, GLOBAL = 1, WEAK = 2;
    static final int UNUSED = 0, TAKEN = 1, ARCHIVE = 2;
    static final int TEXT = 0, DATA = 1;

    private Op() {
    }

    /** Appends items, three numbers each: op, a, b. */
    static void put(LinkYard yard, int module, int... numbers) {
        for (int k = 0; k < numbers.length; k += 3) {
            if (yard.item(module, numbers[k], numbers[k + 1], numbers[k + 2]) < 0) {
                throw new IllegalArgumentException("item " + k / 3 + " of module " + module + " was refused");
            }
        }
    }

    /** A yard whose module 0 is taken and begins with the entry's label. */
    static LinkYard program(int... numbers) {
        LinkYard yard = new LinkYard();
        put(yard, 0, LABEL, 0, GLOBAL);
        put(yard, 0, numbers);
        yard.role(0, TAKEN);
        return yard;
    }

    /** A yard whose entry lies behind so many words that are 0; it is linked. */
    static LinkYard linkedAt(int words, int... numbers) {
        LinkYard yard = new LinkYard();
        space(yard, 0, words);
        put(yard, 0, LABEL, 0, GLOBAL);
        put(yard, 0, numbers);
        yard.role(0, TAKEN);
        yard.link();
        return yard;
    }

    /** The word that is taken apart into these. */
    static int code(int op, int a, boolean isLong, int n) {
        return (op << 24) + (a << 20) + (isLong ? 1 << 16 : 0) + (n & 0xFFFF);
    }

    /** Appends spaces until they have so many words together. */
    static void space(LinkYard yard, int module, int words) {
        for (int left = words; left > 0; left -= 16) {
            put(yard, module, SPACE, Math.min(16, left), 0);
        }
    }
}
