import java.lang.reflect.Constructor;
import java.lang.reflect.Field;
import java.lang.reflect.Method;
import java.lang.reflect.Modifier;
import java.util.Set;
import java.util.TreeSet;

/** The public face is the document's, with nothing beside it; the rest is as LANGUAGE.md allows. */
public final class FaceTest {
    public static void main(String[] args) {
        Due due = new Due();
        due.in("face");
        due.that("the class is public and final",
                Modifier.isPublic(BlockCoder.class.getModifiers())
                        && Modifier.isFinal(BlockCoder.class.getModifiers()));
        due.that("no nested class", BlockCoder.class.getDeclaredClasses().length == 0);
        due.answer("BAD", BlockCoder.BAD, -1);
        due.answer("FULL", BlockCoder.FULL, -2);
        due.answer("NONE", BlockCoder.NONE, -3);

        Set<String> want = new TreeSet<>(Set.of(
                "public static final int BlockCoder.BAD",
                "public static final int BlockCoder.FULL",
                "public static final int BlockCoder.NONE",
                "public BlockCoder()",
                "public int BlockCoder.type(int)",
                "public int BlockCoder.repeat(int)",
                "public int BlockCoder.clear()",
                "public int BlockCoder.column(int)",
                "public int BlockCoder.mark()",
                "public int BlockCoder.rank(int)",
                "public int BlockCoder.symbols()",
                "public int BlockCoder.symbol(int)",
                "public int BlockCoder.cost()",
                "public int BlockCoder.decoded(int)",
                "public int BlockCoder.different()"));
        Set<String> got = visibleMembers();
        due.that("face " + got + " is " + want, got.equals(want));
        due.in("language");
        privateMembers(due);
        due.finish();
    }

    private static void privateMembers(Due due) {
        Set<Class<?>> types = Set.of(int.class, long.class, short.class, byte.class, char.class, boolean.class,
                int[].class, long[].class, short[].class, byte[].class, char[].class, boolean[].class);
        int fields = 0;
        for (Field f : BlockCoder.class.getDeclaredFields()) {
            due.that("rule 2 for " + f, types.contains(f.getType()));
            if (Modifier.isStatic(f.getModifiers())) {
                due.that("rule 5 for " + f, Modifier.isFinal(f.getModifiers())
                        && (f.getType() == int.class || f.getType() == long.class));
            } else {
                fields++;
            }
        }
        due.that("rule 10 for " + fields + " fields", fields <= 40);
        Set<String> names = new TreeSet<>();
        for (Method m : BlockCoder.class.getDeclaredMethods()) {
            due.that("rule 1 for the name of " + m, names.add(m.getName()));
            due.that("rule 10 for the parameters of " + m, m.getParameterCount() <= 7);
        }
    }

    private static Set<String> visibleMembers() {
        Set<String> members = new TreeSet<>();
        for (Field f : BlockCoder.class.getDeclaredFields()) {
            if (!Modifier.isPrivate(f.getModifiers())) {
                members.add(f.toString());
            }
        }
        for (Constructor<?> c : BlockCoder.class.getDeclaredConstructors()) {
            if (!Modifier.isPrivate(c.getModifiers())) {
                members.add(c.toString());
            }
        }
        for (Method m : BlockCoder.class.getDeclaredMethods()) {
            if (!Modifier.isPrivate(m.getModifiers())) {
                members.add(m.toString());
            }
        }
        return members;
    }
}
