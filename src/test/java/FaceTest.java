import java.lang.reflect.Constructor;
import java.lang.reflect.Field;
import java.lang.reflect.Method;
import java.lang.reflect.Modifier;
import java.util.Arrays;
import java.util.TreeSet;

/** The face of the class: what the document lists, with its modifiers, and nothing more. */
final class FaceTest {
    private static final String[] METHODS = {
        "public int link(int,int,boolean)",
        "public boolean rate(int,int,int,int)",
        "public boolean mint(int,int,int)",
        "public boolean melt(int,int,int)",
        "public boolean exchange(int,int,int,int)",
        "public boolean bag(int,int,int)",
        "public boolean deliver(int,int)",
        "public int snap(int)",
        "public long stock(int,int)",
        "public long till(int,int)",
        "public int onLink(int)",
        "public int thing(int,int,int)"
            + " throws java.util.NoSuchElementException,java.lang.IllegalArgumentException",
        "public boolean recorded(int,int)",
        "public boolean finished(int)",
        "public long piece(int,int,int,int)"
            + " throws java.util.NoSuchElementException,java.lang.IllegalArgumentException",
        "public long road(int,int,int)",
        "public long total(int,int) throws java.util.NoSuchElementException",
        "public long minted(int,int)",
        "public long trueTotal(int)",
        "public int below(int,int,long)",
        "public int events(int,int)",
    };

    public static void main(String[] args) {
        Checks t = new Checks();
        t.due("class", Modifier.toString(PurseHouse.class.getModifiers()), "public final");
        TreeSet<String> want = new TreeSet<>(Arrays.asList(METHODS));
        want.add("public static final int NONE");
        want.add("public PurseHouse(int)");
        t.due("the face", visibleMembers().toString(), want.toString());
        t.due("private methods with a name of the face", clashingNames().toString(), "[]");
        t.end();
    }

    private static TreeSet<String> visibleMembers() {
        TreeSet<String> seen = new TreeSet<>();
        for (Method m : PurseHouse.class.getDeclaredMethods()) {
            if (!Modifier.isPrivate(m.getModifiers())) {
                seen.add(m.toString().replace("PurseHouse.", ""));
            }
        }
        for (Field f : PurseHouse.class.getDeclaredFields()) {
            if (!Modifier.isPrivate(f.getModifiers())) {
                seen.add(f.toString().replace("PurseHouse.", ""));
            }
        }
        for (Constructor<?> c : PurseHouse.class.getDeclaredConstructors()) {
            seen.add(c.toString());
        }
        return seen;
    }

    private static TreeSet<String> clashingNames() {
        TreeSet<String> open = new TreeSet<>();
        TreeSet<String> hidden = new TreeSet<>();
        for (Method m : PurseHouse.class.getDeclaredMethods()) {
            (Modifier.isPrivate(m.getModifiers()) ? hidden : open).add(m.getName());
        }
        hidden.retainAll(open);
        return hidden;
    }
}
