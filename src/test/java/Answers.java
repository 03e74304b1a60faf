import java.util.ArrayList;
import java.util.List;

/** What an object answers to every question, so that two moments can be compared. */
final class Answers {
    private Answers() {
    }

    static List<Integer> of(BlockCoder x) {
        List<Integer> all = new ArrayList<>();
        for (int i = -1; i <= 32; i++) {
            all.add(x.column(i));
            all.add(x.rank(i));
            all.add(x.symbol(i));
            all.add(x.decoded(i));
        }
        all.add(x.mark());
        all.add(x.symbols());
        all.add(x.cost());
        all.add(x.different());
        return all;
    }

    static BlockCoder typed(int... letters) {
        BlockCoder x = new BlockCoder();
        for (int letter : letters) {
            x.type(letter);
        }
        return x;
    }
}
