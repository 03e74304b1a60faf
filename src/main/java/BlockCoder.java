/**
 * A block of letters, coded in four stages and decoded again.
 *
 * Every change of the text runs all stages at once, so that the questions only read
 * what is there and cannot change anything.
 */
public final class BlockCoder {
    public static final int BAD = -1;
    public static final int FULL = -2;
    public static final int NONE = -3;

    private static final int MOST_LETTERS = 32;
    private static final int LETTER_KINDS = 6;

    // A rank above 0 becomes one symbol, and a run of m ranks 0 at most m: there are
    // never more symbols than letters.
    private static final int MOST_SYMBOLS = MOST_LETTERS;
    private static final int SYMBOL_KINDS = LETTER_KINDS + 1;

    // A tree whose 7 leaves are the symbols has 6 inner nodes, and no leaf lies deeper than 6.
    private static final int MOST_NODES = 2 * SYMBOL_KINDS - 1;
    private static final int DEEPEST = SYMBOL_KINDS - 1;
    // More than any text needs: lists of three bits would do for 7 symbols, so that the least
    // cost is not above three bits for each symbol.
    private static final int MOST_BITS = MOST_SYMBOLS * DEEPEST;
    private static final int NO_NODE = -1;
    private static final int NO_KIND = -1;

    private final int[] text = new int[MOST_LETTERS];
    private int length;

    private final int[] columnLetters = new int[MOST_LETTERS];
    private int markRow;

    private final int[] row = new int[LETTER_KINDS];
    private final int[] ranks = new int[MOST_LETTERS];

    private final int[] symbolList = new int[MOST_SYMBOLS];
    private int symbolCount;

    // The code's tree: the nodes below SYMBOL_KINDS are the symbols themselves.
    private final int[] nodeWeight = new int[MOST_NODES];
    private final int[] nodeParent = new int[MOST_NODES];
    private final int[] nodeSide = new int[MOST_NODES];
    private final boolean[] nodeOpen = new boolean[MOST_NODES];
    private int occurringKinds;

    private final int[] codeLength = new int[SYMBOL_KINDS];
    private final int[] codeBits = new int[SYMBOL_KINDS];
    private final int[] bits = new int[MOST_BITS];
    private int bitCount;

    // What the decoder has won back; it reads only the bits, the code and the mark.
    private final int[] readSymbols = new int[MOST_SYMBOLS];
    private int readSymbolCount;
    private final int[] readRanks = new int[MOST_LETTERS];
    private int readRankCount;
    private final int[] readColumn = new int[MOST_LETTERS];
    private final int[] readText = new int[MOST_LETTERS];

    public BlockCoder() {
        length = 0;
        codeAndDecode();
    }

    public int type(int letter) {
        if (length >= MOST_LETTERS) {
            return FULL;
        }
        if (letter < 0 || letter >= LETTER_KINDS) {
            return BAD;
        }
        text[length] = letter;
        length++;
        codeAndDecode();
        return length;
    }

    public int repeat(int count) {
        if (count < 1 || count > length) {
            return BAD;
        }
        if (length + count > MOST_LETTERS) {
            return FULL;
        }
        int from = length - count;
        for (int k = 0; k < count; k++) {
            text[length + k] = text[from + k];
        }
        length += count;
        codeAndDecode();
        return length;
    }

    public int clear() {
        int had = length;
        length = 0;
        codeAndDecode();
        return had;
    }

    public int column(int i) {
        return itemOrNone(columnLetters, length, i);
    }

    public int mark() {
        return length == 0 ? NONE : markRow;
    }

    public int rank(int i) {
        return itemOrNone(ranks, length, i);
    }

    public int symbols() {
        return symbolCount;
    }

    public int symbol(int i) {
        return itemOrNone(symbolList, symbolCount, i);
    }

    public int cost() {
        return bitCount;
    }

    public int decoded(int i) {
        return itemOrNone(readText, readRankCount, i);
    }

    public int different() {
        return occurringKinds;
    }

    private static int itemOrNone(int[] list, int count, int i) {
        return i < 0 || i >= count ? NONE : list[i];
    }

    private void codeAndDecode() {
        makeColumn();
        makeRanks();
        makeSymbols();
        makeCode();
        writeBits();
        readBits();
        undoSymbols();
        undoRanks();
        undoColumn();
    }

    // ---- the column and the mark ----

    private void makeColumn() {
        markRow = 0;
        for (int p = 0; p < length; p++) {
            int place = sortedPlace(p);
            columnLetters[place] = text[p == 0 ? length - 1 : p - 1];
            if (p == 0) {
                markRow = place;
            }
        }
    }

    private int sortedPlace(int p) {
        int before = 0;
        for (int q = 0; q < length; q++) {
            if (sortsBefore(q, p)) {
                before++;
            }
        }
        return before;
    }

    private boolean sortsBefore(int p, int q) {
        int left = p;
        int right = q;
        for (int k = 0; k < length; k++) {
            if (text[left] != text[right]) {
                return text[left] < text[right];
            }
            left = left + 1 < length ? left + 1 : 0;
            right = right + 1 < length ? right + 1 : 0;
        }
        return p < q;
    }

    // ---- the ranks ----

    private void makeRanks() {
        resetRow();
        for (int i = 0; i < length; i++) {
            int place = placeInRow(columnLetters[i]);
            ranks[i] = place;
            moveToFront(place);
        }
    }

    private void resetRow() {
        for (int letter = 0; letter < LETTER_KINDS; letter++) {
            row[letter] = letter;
        }
    }

    private int placeInRow(int letter) {
        int place = 0;
        for (int k = 0; k < LETTER_KINDS; k++) {
            if (row[k] == letter) {
                place = k;
            }
        }
        return place;
    }

    private void moveToFront(int place) {
        int letter = row[place];
        for (int k = place; k > 0; k--) {
            row[k] = row[k - 1];
        }
        row[0] = letter;
    }

    // ---- the symbols ----

    private void makeSymbols() {
        symbolCount = 0;
        int zeros = 0;
        for (int i = 0; i < length; i++) {
            if (ranks[i] == 0) {
                zeros++;
            } else {
                addRun(zeros);
                zeros = 0;
                addSymbol(ranks[i] + 1);
            }
        }
        addRun(zeros);
    }

    private void addRun(int zeros) {
        int m = zeros;
        for (int step = 0; step < MOST_SYMBOLS && m > 0; step++) {
            if (m % 2 == 1) {
                addSymbol(0);
                m = (m - 1) / 2;
            } else {
                addSymbol(1);
                m = (m - 2) / 2;
            }
        }
    }

    private void addSymbol(int kind) {
        if (symbolCount < MOST_SYMBOLS) {
            symbolList[symbolCount] = kind;
            symbolCount++;
        }
    }

    // ---- a code of the least cost (Huffman's) ----

    private void makeCode() {
        startTree();
        growTree();
        for (int kind = 0; kind < SYMBOL_KINDS; kind++) {
            takeCodeFromTree(kind);
        }
    }

    private void startTree() {
        for (int node = 0; node < MOST_NODES; node++) {
            nodeWeight[node] = 0;
            nodeParent[node] = NO_NODE;
            nodeSide[node] = 0;
            nodeOpen[node] = false;
        }
        occurringKinds = 0;
        for (int i = 0; i < symbolCount; i++) {
            int kind = symbolList[i];
            if (nodeWeight[kind] == 0) {
                nodeOpen[kind] = true;
                occurringKinds++;
            }
            nodeWeight[kind]++;
        }
    }

    private void growTree() {
        int node = SYMBOL_KINDS;
        for (int joined = 1; joined < occurringKinds && node < MOST_NODES; joined++) {
            int first = lightestOpenNode();
            hangUnder(first, node, 0);
            int second = lightestOpenNode();
            hangUnder(second, node, 1);
            nodeWeight[node] = nodeWeight[first] + nodeWeight[second];
            nodeOpen[node] = true;
            node++;
        }
    }

    private int lightestOpenNode() {
        int lightest = 0;
        for (int node = 1; node < MOST_NODES; node++) {
            if (nodeOpen[node] && (!nodeOpen[lightest] || nodeWeight[node] < nodeWeight[lightest])) {
                lightest = node;
            }
        }
        return lightest;
    }

    private void hangUnder(int node, int parent, int side) {
        nodeParent[node] = parent;
        nodeSide[node] = side;
        nodeOpen[node] = false;
    }

    private void takeCodeFromTree(int kind) {
        int node = kind;
        int depth = 0;
        int path = 0;
        for (int step = 0; step < DEEPEST && nodeParent[node] != NO_NODE; step++) {
            path |= nodeSide[node] << depth;
            depth++;
            node = nodeParent[node];
        }
        // A symbol that is alone is its tree's root, and yet a code has one bit at least.
        if (depth == 0 && nodeWeight[kind] > 0) {
            depth = 1;
        }
        codeLength[kind] = depth;
        codeBits[kind] = path;
    }

    // ---- to bits and back ----

    private void writeBits() {
        bitCount = 0;
        for (int i = 0; i < symbolCount; i++) {
            int kind = symbolList[i];
            for (int k = codeLength[kind] - 1; k >= 0; k--) {
                addBit((codeBits[kind] >> k) & 1);
            }
        }
    }

    private void addBit(int bit) {
        if (bitCount < MOST_BITS) {
            bits[bitCount] = bit;
            bitCount++;
        }
    }

    private void readBits() {
        readSymbolCount = 0;
        int seen = 0;
        int path = 0;
        for (int i = 0; i < bitCount; i++) {
            path = 2 * path + bits[i];
            seen++;
            int kind = kindWithCode(seen, path);
            if (kind != NO_KIND) {
                addReadSymbol(kind);
                seen = 0;
                path = 0;
            }
        }
    }

    private int kindWithCode(int seen, int path) {
        for (int kind = 0; kind < SYMBOL_KINDS; kind++) {
            if (codeLength[kind] == seen && codeBits[kind] == path) {
                return kind;
            }
        }
        return NO_KIND;
    }

    private void addReadSymbol(int kind) {
        if (readSymbolCount < MOST_SYMBOLS) {
            readSymbols[readSymbolCount] = kind;
            readSymbolCount++;
        }
    }

    // ---- from the symbols that were read back to a text ----

    private void undoSymbols() {
        readRankCount = 0;
        // Symbol number k of a run stands for (symbol + 1) * 2^k ranks 0.
        int worth = 1;
        for (int i = 0; i < readSymbolCount; i++) {
            int kind = readSymbols[i];
            if (kind <= 1) {
                addReadRanks(0, (kind + 1) * worth);
                worth *= 2;
            } else {
                addReadRanks(kind - 1, 1);
                worth = 1;
            }
        }
    }

    private void addReadRanks(int value, int times) {
        for (int k = 0; k < times && readRankCount < MOST_LETTERS; k++) {
            readRanks[readRankCount] = value;
            readRankCount++;
        }
    }

    private void undoRanks() {
        resetRow();
        for (int i = 0; i < readRankCount; i++) {
            int place = readRanks[i];
            readColumn[i] = row[place];
            moveToFront(place);
        }
    }

    private void undoColumn() {
        int place = markRow;
        for (int k = readRankCount - 1; k >= 0; k--) {
            readText[k] = readColumn[place];
            place = placeOneEarlier(place);
        }
    }

    /**
     * Where the rotation that starts one letter earlier is sorted: it begins with the column's
     * letter at this place, and rotations that begin alike keep the order of what follows.
     * (Equal rotations may change places among themselves, but they read the same.)
     */
    private int placeOneEarlier(int place) {
        int letter = readColumn[place];
        int before = 0;
        for (int k = 0; k < readRankCount; k++) {
            if (readColumn[k] < letter || (readColumn[k] == letter && k < place)) {
                before++;
            }
        }
        return before;
    }
}
