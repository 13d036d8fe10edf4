import java.lang.reflect.Constructor;
import java.lang.reflect.Field;
import java.lang.reflect.Method;
import java.lang.reflect.Modifier;
import java.util.Set;
import java.util.TreeSet;

/** The public face is the document's and nothing more. */
public final class FaceTest {
    private static final Set<String> DUE = Set.of(
            "public static final int MixfixReader.BAD_ARG",
            "public static final int MixfixReader.FULL",
            "public static final int MixfixReader.NONE",
            "public MixfixReader()",
            "public int MixfixReader.level(int,int)",
            "public int MixfixReader.operator(int,int,int)",
            "public int MixfixReader.token(int)",
            "public int MixfixReader.untoken()",
            "public void MixfixReader.clear()",
            "public int MixfixReader.size()",
            "public boolean MixfixReader.reads()",
            "public int MixfixReader.strength()",
            "public int MixfixReader.value()",
            "public int MixfixReader.root()",
            "public int MixfixReader.depth(int)",
            "public int MixfixReader.spare()",
            "public int MixfixReader.endings()");

    public static void main(String[] args) {
        Set<String> open = new TreeSet<>();
        for (Field f : MixfixReader.class.getDeclaredFields()) {
            if (!Modifier.isPrivate(f.getModifiers())) {
                open.add(f.toString());
            }
        }
        for (Constructor<?> c : MixfixReader.class.getDeclaredConstructors()) {
            if (!Modifier.isPrivate(c.getModifiers())) {
                open.add(c.toString());
            }
        }
        for (Method m : MixfixReader.class.getDeclaredMethods()) {
            if (!Modifier.isPrivate(m.getModifiers())) {
                open.add(m.toString());
            }
        }
        for (String member : DUE) {
            Check.same("having " + member, open.contains(member), true);
        }
        for (String member : open) {
            Check.same("asking for " + member, DUE.contains(member), true);
        }
        int modifiers = MixfixReader.class.getModifiers();
        Check.same("public and final", modifiers, Modifier.PUBLIC | Modifier.FINAL);
        Check.same("BAD_ARG", MixfixReader.BAD_ARG, -1);
        Check.same("FULL", MixfixReader.FULL, -2);
        Check.same("NONE", MixfixReader.NONE, -4);
        Check.end();
    }
}
