import java.lang.reflect.Constructor;
import java.lang.reflect.Field;
import java.lang.reflect.Method;
import java.lang.reflect.Modifier;
import java.util.Set;
import java.util.TreeSet;

// The members that are not private are those of the document, and no others.
public final class FaceTest {
    private static final String[] DUE = {
        "public final class SwitchNet",
        "public SwitchNet()",
        "public static final int SwitchNet.BAD",
        "public static final int SwitchNet.FULL",
        "public int SwitchNet.add(int,int,int)",
        "public boolean SwitchNet.remove(int)",
        "public boolean SwitchNet.set(int,int)",
        "public boolean SwitchNet.size(int,int)",
        "public boolean SwitchNet.charge(int,int)",
        "public int SwitchNet.settle()",
        "public int SwitchNet.holds(int)",
        "public int SwitchNet.would(int)",
        "public int SwitchNet.weight(int)",
        "public int SwitchNet.roots(int)",
        "public int SwitchNet.closed()",
        "public int SwitchNet.switches()",
        "public boolean SwitchNet.shorted()",
        "public int SwitchNet.reach(int)",
        "public int SwitchNet.unknowns()",
        "public int SwitchNet.inputsFor(int,int)",
    };

    private static Set<String> shown() {
        Set<String> shown = new TreeSet<>();
        shown.add(SwitchNet.class.toGenericString());
        for (Constructor<?> c : SwitchNet.class.getDeclaredConstructors()) {
            addUnlessPrivate(shown, c.getModifiers(), c.toString());
        }
        for (Field f : SwitchNet.class.getDeclaredFields()) {
            addUnlessPrivate(shown, f.getModifiers(), f.toString());
        }
        for (Method m : SwitchNet.class.getDeclaredMethods()) {
            addUnlessPrivate(shown, m.getModifiers(), m.toString());
        }
        return shown;
    }

    private static void addUnlessPrivate(Set<String> shown, int modifiers, String member) {
        if (!Modifier.isPrivate(modifiers)) {
            shown.add(member);
        }
    }

    public static void main(String[] args) {
        Set<String> due = new TreeSet<>(Set.of(DUE));
        Set<String> missing = new TreeSet<>(due);
        Set<String> extra = shown();
        missing.removeAll(extra);
        extra.removeAll(due);
        missing.forEach(m -> System.out.println("missing: " + m));
        extra.forEach(m -> System.out.println("not in the document: " + m));
        boolean constants = SwitchNet.BAD == -1 && SwitchNet.FULL == -2;
        if (!constants) {
            System.out.println("BAD and FULL are not -1 and -2");
        }
        if (!missing.isEmpty() || !extra.isEmpty() || !constants) {
            System.exit(1);
        }
        System.out.println("the face is the document's");
    }
}
