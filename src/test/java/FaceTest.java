import java.lang.reflect.Constructor;
import java.lang.reflect.Field;
import java.lang.reflect.Method;
import java.lang.reflect.Modifier;
import java.util.Set;
import java.util.TreeSet;

/** The public face is the document's, with nothing beside it. */
public final class FaceTest {
    public static void main(String[] args) {
        Due due = new Due();
        due.in("face");
        due.that("the class is public and final",
                Modifier.isPublic(BlockCoder.class.getModifiers())
                        && Modifier.isFinal(BlockCoder.class.getModifiers()));
        due.that("no nested class", BlockCoder.class.getDeclaredClasses().length == 0);
        due.answer("BAD", BlockCoder.BAD, -1);
        due.answer("FULL", BlockCoder.FULL, -2);
        due.answer("NONE", BlockCoder.NONE, -3);

        Set<String> want = new TreeSet<>(Set.of(
                "public static final int BlockCoder.BAD",
                "public static final int BlockCoder.FULL",
                "public static final int BlockCoder.NONE",
                "public BlockCoder()",
                "public int BlockCoder.type(int)",
                "public int BlockCoder.repeat(int)",
                "public int BlockCoder.clear()",
                "public int BlockCoder.column(int)",
                "public int BlockCoder.mark()",
                "public int BlockCoder.rank(int)",
                "public int BlockCoder.symbols()",
                "public int BlockCoder.symbol(int)",
                "public int BlockCoder.cost()",
                "public int BlockCoder.decoded(int)",
                "public int BlockCoder.different()"));
        Set<String> got = visibleMembers();
        due.that("face " + got + " is " + want, got.equals(want));
        due.finish();
    }

    private static Set<String> visibleMembers() {
        Set<String> members = new TreeSet<>();
        for (Field f : BlockCoder.class.getDeclaredFields()) {
            if (!Modifier.isPrivate(f.getModifiers())) {
                members.add(f.toString());
            }
        }
        for (Constructor<?> c : BlockCoder.class.getDeclaredConstructors()) {
            if (!Modifier.isPrivate(c.getModifiers())) {
                members.add(c.toString());
            }
        }
        for (Method m : BlockCoder.class.getDeclaredMethods()) {
            if (!Modifier.isPrivate(m.getModifiers())) {
                members.add(m.toString());
            }
        }
        return members;
    }
}
