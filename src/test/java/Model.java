import java.util.ArrayList;
import java.util.Collections;
import java.util.List;
import java.util.TreeMap;

/**
 * The document's Terms a second time, by other means than the program's: sorted lists of
 * rotations, binary numerals for the runs, and a search through all code lengths for the
 * least cost.
 */
final class Model {
    final List<Integer> text = new ArrayList<>();
    List<Integer> column = new ArrayList<>();
    List<Integer> ranks = new ArrayList<>();
    List<Integer> symbols = new ArrayList<>();
    int mark = BlockCoder.NONE;
    int cost = 0;
    int different = 0;

    int type(int letter) {
        if (text.size() == 32) {
            return BlockCoder.FULL;
        }
        if (!List.of(0, 1, 2, 3, 4, 5).contains(letter)) {
            return BlockCoder.BAD;
        }
        text.add(letter);
        code();
        return text.size();
    }

    int repeat(int count) {
        if (count < 1 || count > text.size()) {
            return BlockCoder.BAD;
        }
        if (text.size() + count > 32) {
            return BlockCoder.FULL;
        }
        text.addAll(new ArrayList<>(text.subList(text.size() - count, text.size())));
        code();
        return text.size();
    }

    int clear() {
        int had = text.size();
        text.clear();
        code();
        return had;
    }

    static int at(List<Integer> list, int i) {
        return i >= 0 && i < list.size() ? list.get(i) : BlockCoder.NONE;
    }

    private void code() {
        codeColumn();
        codeRanks();
        codeSymbols();
        codeCost();
    }

    private void codeColumn() {
        int n = text.size();
        List<String> rotations = new ArrayList<>();
        for (int p = 0; p < n; p++) {
            StringBuilder rotation = new StringBuilder();
            for (int k = 0; k < n; k++) {
                rotation.append(text.get((p + k) % n));
            }
            // Two digits of p behind letters of one length: equal rotations sort by p.
            rotations.add(rotation + String.format(":%02d", p));
        }
        Collections.sort(rotations);
        column = new ArrayList<>();
        mark = BlockCoder.NONE;
        for (String rotation : rotations) {
            if (rotation.endsWith(":00")) {
                mark = column.size();
            }
            column.add(rotation.charAt(n - 1) - '0');
        }
    }

    private void codeRanks() {
        List<Integer> row = new ArrayList<>(List.of(0, 1, 2, 3, 4, 5));
        ranks = new ArrayList<>();
        for (Integer letter : column) {
            ranks.add(row.indexOf(letter));
            row.remove(letter);
            row.add(0, letter);
        }
    }

    private void codeSymbols() {
        symbols = new ArrayList<>();
        int i = 0;
        while (i < ranks.size()) {
            int end = i;
            while (end < ranks.size() && ranks.get(end) == 0) {
                end++;
            }
            if (end == i) {
                symbols.add(ranks.get(i) + 1);
                i++;
            } else {
                // The symbols of a run of m are the binary digits of m + 1, lowest first,
                // without the highest one.
                String digits = Integer.toBinaryString(end - i + 1);
                for (int k = digits.length() - 1; k > 0; k--) {
                    symbols.add(digits.charAt(k) == '0' ? 0 : 1);
                }
                i = end;
            }
        }
    }

    private void codeCost() {
        TreeMap<Integer, Integer> counts = new TreeMap<>();
        for (Integer symbol : symbols) {
            counts.merge(symbol, 1, Integer::sum);
        }
        different = counts.size();
        List<Integer> often = new ArrayList<>(counts.values());
        often.sort(Collections.reverseOrder());
        cost = leastCost(often, 0, 1, 64);
    }

    /**
     * By Kraft's inequality lengths belong to a code just if their shares 64 / 2^length do not
     * exceed 64 together; a rarer symbol need not have the shorter list, and none of seven
     * symbols needs more than six bits.
     */
    private static int leastCost(List<Integer> counts, int from, int shortest, int share) {
        if (from == counts.size()) {
            return 0;
        }
        int least = 1_000_000;
        for (int bits = shortest; bits <= 6; bits++) {
            int left = share - (64 >> bits);
            if (left >= 0) {
                least = Math.min(least, counts.get(from) * bits + leastCost(counts, from + 1, bits, left));
            }
        }
        return least;
    }
}
